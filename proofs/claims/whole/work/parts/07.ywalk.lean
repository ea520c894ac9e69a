/-! the reference's checker, method by method -/
theorem pj_bt1 : ∀ j, j < 16 → ∀ b, b < 32 → bt ((1 : Int32) <<< (nI j &&& 31)) b = decide (j = b) := by decide +kernel
theorem pj_b1 : ∀ i, i < 32 → bt 1 i = decide (i = 0) := by decide +kernel
theorem pj_bit (x : Int32) {j : Nat} (hj : j < 32) : (x >>> (nI j &&& 31)) &&& 1 = 1 ↔ bt x j = true := by
  have e : bt (x >>> (nI j &&& 31)) 0 = bt x j := by rw [b_sshr j hj x (by omega), if_pos (by omega)]; rfl
  constructor
  · intro h
    have h1 : bt ((x >>> (nI j &&& 31)) &&& 1) 0 = bt 1 0 := by rw [h]
    rw [b_and, e, pj_b1 0 (by omega)] at h1
    simpa using h1
  · intro h
    apply b_ext
    intro i hi
    rw [b_and, pj_b1 i hi]
    by_cases c : i = 0
    · subst c
      rw [e, h]
      rfl
    · rw [decide_eq_false c, Bool.and_false]
theorem pj_n1 : (1 : Int32) = nI 1 := rfl
theorem pj_n2 : (2 : Int32) = nI 2 := rfl
theorem pj_n3 : (3 : Int32) = nI 3 := rfl
theorem pj_n9 : (9 : Int32) = nI 9 := rfl
section
variable {g_greatest g_poolSize g_count g_doing g_pc g_tall g_made g_forks g_bits : Int32} {d_ops d_args d_reached d_fresh d_coming d_dist d_stack d_locals d_fields : Nat → Int32} {n mh : Nat} {O : Nat → Nat} {G : Nat → Int32}
theorem my_heightOf {post : Int32 → Prop} {v : Nat} (hv : v < 2 ^ 31) (H : post (nI (pj_hg v))) : wpY_heightOf post (g_greatest, g_poolSize, g_count, g_doing, g_pc, g_tall, g_made, g_forks, g_bits, d_ops, d_args, d_reached, d_fresh, d_coming, d_dist, d_stack, d_locals, d_fields) (nI v) := by
  have key : ∀ h, pj_hg v = h → post (nI h) := fun h e => by rw [← e]; exact H
  exact pk_le 1 v (fun h1 => pk_le 4 v (fun h4 => pk_le 13 v (fun h13 => pk_le 40 v
    (fun h40 => key 4 (by unfold pj_hg; (repeat' split) <;> omega)) (fun h40 => key 3 (by unfold pj_hg; (repeat' split) <;> omega)))
    (fun h13 => key 2 (by unfold pj_hg; (repeat' split) <;> omega))) (fun h4 => key 1 (by unfold pj_hg; (repeat' split) <;> omega))) (fun h1 => key 0 (by unfold pj_hg; (repeat' split) <;> omega))
theorem my_need {post : Int32 → Prop} {o : Nat} (ho : o ≤ 13) (H : post (nI (pj_nd o))) : wpY_need post (g_greatest, g_poolSize, g_count, g_doing, g_pc, g_tall, g_made, g_forks, g_bits, d_ops, d_args, d_reached, d_fresh, d_coming, d_dist, d_stack, d_locals, d_fields) (nI o) := by
  unfold wpY_need
  rcases pj_o14 ho with rfl | rfl | rfl | rfl | rfl | rfl | rfl | rfl | rfl | rfl | rfl | rfl | rfl | rfl <;> (dsimp only; (repeat (first | refine br_t (by decide) ?_ | refine br_f (by decide) ?_)); exact H)
theorem my_stuck {post : Int32 → Prop} {p s : Nat} (hp : p < 16) (hs : s < 1089) (hO : d_ops = pj_nF O) (ho : O p ≤ 13) (hmh : g_greatest = nI mh) (hm : mh ≤ 4) (H : post (nI (pj_sk mh (O p) s))) : wpY_stuck post (g_greatest, g_poolSize, g_count, g_doing, g_pc, g_tall, g_made, g_forks, g_bits, d_ops, d_args, d_reached, d_fresh, d_coming, d_dist, d_stack, d_locals, d_fields) (nI s) (nI p) := by
  have e0 : d_ops (nI p).toNatClampNeg = nI (O p) := by rw [nI_clamp (by omega), hO]; rfl
  have e9 : nI s / 9 = nI (s / 9) := by rw [pj_n9, pk_div (by omega) (by omega) (by omega)]
  have h4 := pj_hgle (s / 9)
  have hnd2 : pj_nd (O p) ≤ 2 := by unfold pj_nd; (repeat' split) <;> omega
  refine ⟨vp_in_nI hp (by decide), nm_r e0 ⟨by decide, ?_⟩⟩
  rw [e9]
  refine my_heightOf (by omega) (my_need ho ?_)
  have key : ∀ h, pj_sk mh (O p) s = h → post (nI h) := fun h e => by rw [← e]; exact H
  clear H
  refine pk_le (pj_nd (O p)) (pj_hg (s / 9)) (fun h1 => ?_) (fun h1 => key 1 (by unfold pj_sk; rw [if_pos h1]))
  have grow : (O p = 0 ∨ O p = 1 ∨ O p = 3 ∨ O p = 8) → (nI (pj_hg (s / 9)) < g_greatest → post 0) ∧ (¬ nI (pj_hg (s / 9)) < g_greatest → post 2) := fun c => by
    refine pk_lt (pj_hg (s / 9)) mh (fun h2 => key 0 ?_) (fun h2 => key 2 ?_) rfl hmh
    · unfold pj_sk
      rw [if_neg (by omega), if_neg (fun z => by have := z.2; omega)]
    · unfold pj_sk
      rw [if_neg (by omega), if_pos ⟨c, h2⟩]
  have nogrow : ¬ (O p = 0 ∨ O p = 1 ∨ O p = 3 ∨ O p = 8) → post 0 := fun c => by
    refine key 0 ?_
    unfold pj_sk
    rw [if_neg (by omega), if_neg (fun z => c z.1)]
  generalize O p = o at *
  rcases pj_o14 ho with rfl | rfl | rfl | rfl | rfl | rfl | rfl | rfl | rfl | rfl | rfl | rfl | rfl | rfl <;> ((repeat (first | refine br_t (by decide) ?_ | refine br_f (by decide) ?_)); first | exact grow (by decide) | exact nogrow (by decide))
theorem my_c313 {post : Int32 → Prop} {v a b : Nat} {x4 x5 x6 : Int32} (h4 : x4 = nI v) (h5 : x5 = nI a) (h6 : x6 = nI b) (H : post (nI (v * 9 + a * 3 + b))) : wY_changed_313 post x4 x5 x6 g_greatest g_poolSize g_count g_doing g_pc g_tall g_made g_forks g_bits d_ops d_args d_reached d_fresh d_coming d_dist d_stack d_locals d_fields := by
  subst h4 h5 h6
  show post (((nI v * 9) + (nI a * 3)) + nI b)
  rw [pj_n9, pj_n3, pk_mul, pk_mul, nI_add, nI_add]
  exact H
theorem my_c91 {post : Int32 → Prop} {p o v a b t r t2 r2 : Nat} (hp : p < 16) (ho : o ≤ 13) (ht : t = pj_tp v) (hr : r = pj_rs v) (ht2 : t2 = pj_tp (pj_rs v)) (hr2 : r2 = pj_rs (pj_rs v))
    (H : post (nI (pj_chv o (decide (d_args p = 0)) v a b * 9 + pj_cha o (decide (d_args p = 0)) v a * 3 + pj_chb o (decide (d_args p = 0)) v b))) : wY_changed_91 post (nI p) (nI o) (nI v) (nI a) (nI b) (nI t) (nI r) (nI t2) (nI r2) g_greatest g_poolSize g_count g_doing g_pc g_tall g_made g_forks g_bits d_ops d_args d_reached d_fresh d_coming d_dist d_stack d_locals d_fields := by
  subst ht hr ht2 hr2
  have hin := vp_in_nI (n := p) (N := 16) hp (by decide)
  have ep : (nI p).toNatClampNeg = p := nI_clamp (by omega)
  unfold wY_changed_91
  rcases pj_o14 ho with rfl | rfl | rfl | rfl | rfl | rfl | rfl | rfl | rfl | rfl | rfl | rfl | rfl | rfl
  · (repeat (first | refine br_t (by decide) ?_ | refine br_f (by decide) ?_))
    exact nm_e (my_c313 (v := v * 3 + 1) (by rw [pj_n3, pk_mul, nI_1]) rfl rfl H)
  · (repeat (first | refine br_t (by decide) ?_ | refine br_f (by decide) ?_))
    exact nm_e (my_c313 (v := v * 3 + 2) (by rw [pj_n3, pk_mul, pj_n2, nI_add]) rfl rfl H)
  · (repeat (first | refine br_t (by decide) ?_ | refine br_f (by decide) ?_))
    exact my_c313 rfl rfl rfl H
  · (repeat (first | refine br_t (by decide) ?_ | refine br_f (by decide) ?_))
    exact nm_e (my_c313 (v := v * 3 + pj_tp v + 1) (by rw [pj_n3, pk_mul, nI_add, nI_1]) rfl rfl H)
  · (repeat (first | refine br_t (by decide) ?_ | refine br_f (by decide) ?_))
    exact nm_e (my_c313 (v := (pj_rs (pj_rs v) * 3 + pj_tp v + 1) * 3 + pj_tp (pj_rs v) + 1) (by rw [pj_n3, pk_mul, nI_add, nI_1, pk_mul, nI_add, nI_1]) rfl rfl H)
  · (repeat (first | refine br_t (by decide) ?_ | refine br_f (by decide) ?_))
    exact nm_e (my_c313 (v := pj_rs (pj_rs v) * 3 + 1) (by rw [pj_n3, pk_mul, nI_1]) rfl rfl H)
  · (repeat (first | refine br_t (by decide) ?_ | refine br_f (by decide) ?_))
    exact nm_e (my_c313 (v := pj_rs v * 3 + 1) (by rw [pj_n3, pk_mul, nI_1]) rfl rfl H)
  · (repeat (first | refine br_t (by decide) ?_ | refine br_f (by decide) ?_))
    exact my_c313 rfl rfl rfl H
  · (repeat (first | refine br_t (by decide) ?_ | refine br_f (by decide) ?_))
    refine ⟨hin, ?_⟩
    rw [ep]
    by_cases c : d_args p = 0
    · rw [decide_eq_true c] at H
      exact br_t c (nm_e (my_c313 (v := v * 3 + a + 1) (by rw [pj_n3, pk_mul, nI_add, nI_1]) rfl rfl H))
    · rw [decide_eq_false c] at H
      exact br_f c (nm_e (my_c313 (v := v * 3 + b + 1) (by rw [pj_n3, pk_mul, nI_add, nI_1]) rfl rfl H))
  · (repeat (first | refine br_t (by decide) ?_ | refine br_f (by decide) ?_))
    refine ⟨hin, ?_⟩
    rw [ep]
    by_cases c : d_args p = 0
    · rw [decide_eq_true c] at H
      refine br_t c ⟨hin, ?_⟩
      rw [ep]
      exact br_t c (my_c313 rfl rfl rfl H)
    · rw [decide_eq_false c] at H
      refine br_f c ⟨hin, ?_⟩
      rw [ep]
      exact br_f c (my_c313 rfl rfl rfl H)
  · (repeat (first | refine br_t (by decide) ?_ | refine br_f (by decide) ?_))
    exact my_c313 rfl rfl rfl H
  · (repeat (first | refine br_t (by decide) ?_ | refine br_f (by decide) ?_))
    exact my_c313 rfl rfl rfl H
  · (repeat (first | refine br_t (by decide) ?_ | refine br_f (by decide) ?_))
    exact nm_e (my_c313 (v := pj_rs (pj_rs v) * 3 + 1) (by rw [pj_n3, pk_mul, nI_1]) rfl rfl H)
  · (repeat (first | refine br_t (by decide) ?_ | refine br_f (by decide) ?_))
    exact my_c313 rfl rfl rfl H
theorem pj_tpI {v : Nat} (hv : v < 2 ^ 31) (h0 : 0 < v) : (nI v - 1) - (nI v - 1) / 3 * 3 = nI (pj_tp v) := by
  rw [pj_n1, pk_sub h0, pj_n3, pk_rem (by omega) (by omega) (by omega)]
  rfl
theorem pj_rsI {v : Nat} (hv : v < 2 ^ 31) (h0 : 0 < v) : (nI v - 1) / 3 = nI (pj_rs v) := by
  rw [pj_n1, pk_sub h0, pj_n3, pk_div (by omega) (by omega) (by omega)]
  rfl
theorem my_changed {post : Int32 → Prop} {p s : Nat} (hp : p < 16) (hs : s < 1089) (hO : d_ops = pj_nF O) (ho : O p ≤ 13) (hG : d_args = G) (H : post (nI (pj_ch (O p) (decide (G p = 0)) s))) : wpY_changed post (g_greatest, g_poolSize, g_count, g_doing, g_pc, g_tall, g_made, g_forks, g_bits, d_ops, d_args, d_reached, d_fresh, d_coming, d_dist, d_stack, d_locals, d_fields) (nI s) (nI p) := by
  subst hG
  have e0 : d_ops (nI p).toNatClampNeg = nI (O p) := by rw [nI_clamp (by omega), hO]; rfl
  have e9 : nI s / 9 = nI (s / 9) := by rw [pj_n9, pk_div (by omega) (by omega) (by omega)]
  have e3 : (nI s / 3) - (nI s / 3) / 3 * 3 = nI (s / 3 % 3) := by rw [pj_n3, pk_div (by omega) (by omega) (by omega), pk_rem (by omega) (by omega) (by omega)]
  have e3' : nI s - nI s / 3 * 3 = nI (s % 3) := by rw [pj_n3, pk_rem (by omega) (by omega) (by omega)]
  refine ⟨vp_in_nI hp (by decide), nm_r e0 ⟨by decide, nm_r e9 ⟨by decide, by decide, nm_r e3 ⟨by decide, nm_r e3' ?_⟩⟩⟩⟩
  have H' : post (nI (pj_chv (O p) (decide (d_args p = 0)) (s / 9) (s / 3 % 3) (s % 3) * 9 + pj_cha (O p) (decide (d_args p = 0)) (s / 9) (s / 3 % 3) * 3 + pj_chb (O p) (decide (d_args p = 0)) (s / 9) (s % 3))) := H
  clear H
  have hv : s / 9 < 121 := by omega
  generalize s / 9 = v at *
  generalize s / 3 % 3 = a at *
  generalize s % 3 = b at *
  have hr := pj_rs121 hv
  have k74 : wY_changed_74 post (nI p) (nI (O p)) (nI v) (nI a) (nI b) (nI (pj_tp v)) (nI (pj_rs v)) (nI (pj_tp (pj_rs v))) g_greatest g_poolSize g_count g_doing g_pc g_tall g_made g_forks g_bits d_ops d_args d_reached d_fresh d_coming d_dist d_stack d_locals d_fields := by
    by_cases c : pj_rs v = 0
    · refine br_t (by rw [c]; decide) ?_
      exact my_c91 (r2 := 0) hp ho rfl rfl rfl (by rw [c]; rfl) H'
    · refine br_f (nI_nle (by omega) (by omega)) ⟨by decide, ?_⟩
      rw [pj_rsI (by omega) (by omega)]
      exact my_c91 hp ho rfl rfl rfl rfl H'
  have k57 : wY_changed_57 post (nI p) (nI (O p)) (nI v) (nI a) (nI b) (nI (pj_tp v)) (nI (pj_rs v)) g_greatest g_poolSize g_count g_doing g_pc g_tall g_made g_forks g_bits d_ops d_args d_reached d_fresh d_coming d_dist d_stack d_locals d_fields := by
    by_cases c : pj_rs v = 0
    · refine br_t (by rw [c]; decide) ?_
      have e : pj_tp (pj_rs v) = 0 := by rw [c]; rfl
      rw [e] at k74
      exact k74
    · refine br_f (nI_nle (by omega) (by omega)) ⟨by decide, ?_⟩
      rw [pj_tpI (by omega) (by omega)]
      exact k74
  have k40 : wY_changed_40 post (nI p) (nI (O p)) (nI v) (nI a) (nI b) (nI (pj_tp v)) g_greatest g_poolSize g_count g_doing g_pc g_tall g_made g_forks g_bits d_ops d_args d_reached d_fresh d_coming d_dist d_stack d_locals d_fields := by
    by_cases c : v = 0
    · refine br_t (by rw [c]; decide) ?_
      have e : pj_rs v = 0 := by rw [c]; rfl
      rw [e] at k57
      exact k57
    · refine br_f (nI_nle (by omega) (by omega)) ⟨by decide, ?_⟩
      rw [pj_rsI (by omega) (by omega)]
      exact k57
  by_cases c : v = 0
  · refine br_t (by rw [c]; decide) ?_
    have e : pj_tp v = 0 := by rw [c]; rfl
    rw [e] at k40
    exact k40
  · refine br_f (nI_nle (by omega) (by omega)) ⟨by decide, ?_⟩
    rw [pj_tpI (by omega) (by omega)]
    exact k40
theorem my_reach {post : SY → Prop} {t : Nat} {q : Int32} (hn : n ≤ 16) (hc : g_count = nI n) (ht : t < 1089)
    (H : ∀ cm, (∀ s' p', p' < 32 → (bt (cm s') p' = true ↔ bt (d_coming s') p' = true ∨ (s' = t ∧ p' < n ∧ q = nI p'))) → post (g_greatest, g_poolSize, g_count, g_doing, g_pc, g_tall, g_made, g_forks, g_bits, d_ops, d_args, d_reached, d_fresh, cm, d_dist, d_stack, d_locals, d_fields)) : wpY_reach post (g_greatest, g_poolSize, g_count, g_doing, g_pc, g_tall, g_made, g_forks, g_bits, d_ops, d_args, d_reached, d_fresh, d_coming, d_dist, d_stack, d_locals, d_fields) (nI t) q := by
  subst hc
  have out : (q < 0 ∨ nI n ≤ q) → post (g_greatest, g_poolSize, nI n, g_doing, g_pc, g_tall, g_made, g_forks, g_bits, d_ops, d_args, d_reached, d_fresh, d_coming, d_dist, d_stack, d_locals, d_fields) := fun h => by
    refine H d_coming (fun s' p' _ => ⟨Or.inl, fun z => z.elim id (fun z => ?_)⟩)
    obtain ⟨_, hp, rfl⟩ := z
    rcases h with h | h
    · exact absurd h (nI_pos (by omega))
    · exact absurd h (nI_ge hp (by omega))
  rcases pk_ix q (n := n) (by omega) with h | h | ⟨j, hj, rfl⟩
  · exact br_t h (out (Or.inl h))
  · by_cases h0 : q < 0
    · exact br_t h0 (out (Or.inl h0))
    · exact br_f h0 (br_t h (out (Or.inr h)))
  · refine br_f (nI_pos (by omega)) (br_f (nI_ge hj (by omega)) (br_f (nI_pos (by omega)) (br_f (nI_ge (b := 1089) ht (by decide)) ⟨vp_in_nI ht (by decide), vp_in_nI ht (by decide), nm_e ?_⟩)))
    rw [nI_clamp (by omega)]
    refine H _ (fun s' p' hp' => ?_)
    refine (pj_orB (f := d_coming) (x0 := t) (x := s') (b := p')).trans (or_congr Iff.rfl ?_)
    rw [pj_bt1 j (by omega) p' hp', decide_eq_true_iff]
    exact ⟨fun ⟨a, b⟩ => ⟨a.symm, by omega, by rw [b]⟩, fun ⟨a, b, c⟩ => ⟨a.symm, (nI_eq (by omega) (by omega)).mp c⟩⟩
theorem my_goOn {post : SY → Prop} {p s : Nat} (W : pj_PG n mh O G) (hp : p < n) (hs : s < 1089) (hO : d_ops = pj_nF O) (hG : d_args = G) (hmh : g_greatest = nI mh) (hc : g_count = nI n)
    (H : ∀ cm, (∀ s' p', p' < 32 → (bt (cm s') p' = true ↔ bt (d_coming s') p' = true ∨ pj_St n mh O G p s p' s')) → post (g_greatest, g_poolSize, g_count, g_doing, g_pc, g_tall, g_made, g_forks, g_bits, d_ops, d_args, d_reached, d_fresh, cm, d_dist, d_stack, d_locals, d_fields)) : wpY_goOn post (g_greatest, g_poolSize, g_count, g_doing, g_pc, g_tall, g_made, g_forks, g_bits, d_ops, d_args, d_reached, d_fresh, d_coming, d_dist, d_stack, d_locals, d_fields) (nI s) (nI p) := by
  subst hG
  obtain ⟨hn, m1, m4, hO13, hA⟩ := W
  have ho := hO13 p hp
  have hin := vp_in_nI (n := p) (N := 16) (by omega) (by decide)
  have e0 : d_ops (nI p).toNatClampNeg = nI (O p) := by rw [nI_clamp (by omega), hO]; rfl
  unfold wpY_goOn
  refine my_stuck (by omega) hs hO ho hmh m4 ?_
  refine pk_eq (pj_sk mh (O p) s) 0 (fun hk => ?_) (fun hk => ?_) rfl rfl (by unfold pj_sk; (repeat' split) <;> omega)
  · have ht := pj_ch_lt (z := decide (d_args p = 0)) hs m4 hk
    have g50 : ∀ cm0, (∀ cm, (∀ s' p', p' < 32 → (bt (cm s') p' = true ↔ bt (cm0 s') p' = true ∨ (O p ≠ 10 ∧ O p ≠ 13 ∧ p' < n ∧ s' = pj_ch (O p) (decide (d_args p = 0)) s ∧ p' = p + 1))) → post (g_greatest, g_poolSize, g_count, g_doing, g_pc, g_tall, g_made, g_forks, g_bits, d_ops, d_args, d_reached, d_fresh, cm, d_dist, d_stack, d_locals, d_fields)) → wY_goOn_50 post (nI p) (nI (pj_ch (O p) (decide (d_args p = 0)) s)) g_greatest g_poolSize g_count g_doing g_pc g_tall g_made g_forks g_bits d_ops d_args d_reached d_fresh (cm0) d_dist d_stack d_locals d_fields := fun cm0 K => by
      refine ⟨hin, ?_⟩
      rw [e0]
      refine pk_eq (O p) 10 (fun h => K cm0 (fun s' p' _ => ⟨Or.inl, fun z => z.elim id (fun z => absurd h z.1)⟩)) (fun h10 => ⟨hin, ?_⟩)
      refine pk_eq (O p) 13 (fun h => K cm0 (fun s' p' _ => ⟨Or.inl, fun z => z.elim id (fun z => absurd h z.2.1)⟩)) (fun h13 => ?_)
      rw [nI_1]
      refine my_reach hn hc ht (fun cm hcm => K cm (fun s' p' hp' => (hcm s' p' hp').trans (or_congr Iff.rfl ?_)))
      exact ⟨fun ⟨a, b, c⟩ => ⟨h10, h13, b, a, ((nI_eq (by omega) (by omega)).mp c).symm⟩, fun ⟨_, _, b, a, c⟩ => ⟨a, b, by rw [c]⟩⟩
    have g39 : (O p = 10 ∨ O p = 11) → wY_goOn_39 post (nI p) (nI (pj_ch (O p) (decide (d_args p = 0)) s)) g_greatest g_poolSize g_count g_doing g_pc g_tall g_made g_forks g_bits d_ops d_args d_reached d_fresh d_coming d_dist d_stack d_locals d_fields := fun h1011 => by
      refine ⟨hin, ?_⟩
      rw [nI_clamp (by omega)]
      refine my_reach hn hc ht (fun cm hcm => ?_)
      refine g50 cm (fun cm' hcm' => ?_)
      refine H cm' (fun s' p' hp' => ?_)
      rw [hcm' s' p' hp', hcm s' p' hp']
      unfold pj_St
      constructor
      · rintro ((h | ⟨a, b, c⟩) | ⟨a, b, c, d, e⟩)
        · exact Or.inl h
        · exact Or.inr ⟨b, hk, a, Or.inl ⟨h1011, c⟩⟩
        · exact Or.inr ⟨c, hk, d, Or.inr ⟨a, b, e⟩⟩
      · rintro (h | ⟨a, b, c, (⟨d, e⟩ | ⟨d, e, f⟩)⟩)
        · exact Or.inl (Or.inl h)
        · exact Or.inl (Or.inr ⟨c, a, e⟩)
        · exact Or.inr ⟨d, e, a, c, f⟩
    refine my_changed (by omega) hs hO ho rfl ⟨hin, ?_⟩
    rw [e0]
    refine pk_eq (O p) 10 (fun h => g39 (Or.inl h)) (fun h10 => ⟨hin, ?_⟩)
    refine pk_eq (O p) 11 (fun h => g39 (Or.inr h)) (fun h11 => ?_)
    refine g50 _ (fun cm' hcm' => ?_)
    refine H cm' (fun s' p' hp' => ?_)
    rw [hcm' s' p' hp']
    unfold pj_St
    constructor
    · rintro (h | ⟨a, b, c, d, e⟩)
      · exact Or.inl h
      · exact Or.inr ⟨c, hk, d, Or.inr ⟨a, b, e⟩⟩
    · rintro (h | ⟨a, b, c, (⟨d, e⟩ | ⟨d, e, f⟩)⟩)
      · exact Or.inl h
      · exact d.elim (fun z => absurd z h10) (fun z => absurd z h11)
      · exact Or.inr ⟨d, e, a, c, f⟩
  · refine H _ (fun s' p' _ => ⟨Or.inl, fun z => z.elim id (fun z => absurd z.2.1 hk)⟩)
end
