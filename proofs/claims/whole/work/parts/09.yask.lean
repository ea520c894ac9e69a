/-! the reference's questions -/
def pj_bI (b : Bool) : Int32 := if b then 1 else 0
theorem pj_pp0 : ∀ v, v < 121 → ∀ k, k < 4 → k < pj_hg v → 0 < pj_pp k v := by decide +kernel
theorem pj_flz {n mh o p : Nat} {g : Int32} {s : Nat} : pj_fl n mh o p g s < 13 := by
  unfold pj_fl pj_sk
  (repeat' split) <;> omega
theorem pj_nz : ∀ f, f < 13 → (∀ b, b < 32 → bt (nI f) b = false) → f = 0 := by decide +kernel
section
variable {g_greatest g_poolSize g_count g_doing g_pc g_tall g_made g_forks g_bits : Int32} {d_ops d_args d_reached d_fresh d_coming d_dist d_stack d_locals d_fields : Nat → Int32} {n mh : Nat} {O : Nat → Nat} {G : Nat → Int32}
theorem my_f235 {post : Int32 → Prop} (k f e : Bool) (H : post (nI ((if k then 4 else 0) + (if f || e then 8 else 0)))) : wY_faultOf_235 post (pj_bI k) (pj_bI f) (pj_bI e) g_greatest g_poolSize g_count g_doing g_pc g_tall g_made g_forks g_bits d_ops d_args d_reached d_fresh d_coming d_dist d_stack d_locals d_fields := by
  cases k <;> cases f <;> cases e <;> ((repeat (first | refine br_t (by decide) ?_ | refine br_f (by decide) ?_)); exact H)
theorem my_f204 {post : Int32 → Prop} {p o : Nat} (hn : n ≤ 16) (hp : p < n) (ho : o ≤ 13) (hc : g_count = nI n) (k f : Bool) (H : post (nI ((if k then 4 else 0) + (if f || decide (o ≠ 10 ∧ o ≠ 13 ∧ n ≤ p + 1) then 8 else 0)))) : wY_faultOf_204 post (nI p) (nI o) (pj_bI k) (pj_bI f) g_greatest g_poolSize g_count g_doing g_pc g_tall g_made g_forks g_bits d_ops d_args d_reached d_fresh d_coming d_dist d_stack d_locals d_fields := by
  have no : ¬ (o ≠ 10 ∧ o ≠ 13 ∧ n ≤ p + 1) → wY_faultOf_234 post (pj_bI k) (pj_bI f) g_greatest g_poolSize g_count g_doing g_pc g_tall g_made g_forks g_bits d_ops d_args d_reached d_fresh d_coming d_dist d_stack d_locals d_fields := fun h => by
    rw [decide_eq_false h] at H
    exact my_f235 k f false H
  refine pk_eq o 10 (fun h => no (by omega)) (fun h10 => pk_eq o 13 (fun h => no (by omega)) (fun h13 => ?_))
  rw [nI_1]
  refine pk_lt (p + 1) n (fun h => no (by omega)) (fun h => ?_) rfl hc
  rw [decide_eq_true ⟨h10, h13, h⟩] at H
  exact my_f235 k f true H
theorem my_f161 {post : Int32 → Prop} {p o : Nat} (hn : n ≤ 16) (hp : p < n) (ho : o ≤ 13) (hc : g_count = nI n) (k : Bool) (H : post (nI ((if k then 4 else 0) + (if pj_lv n o p (d_args p) then 8 else 0)))) : wY_faultOf_161 post (nI p) (nI o) (pj_bI k) g_greatest g_poolSize g_count g_doing g_pc g_tall g_made g_forks g_bits d_ops d_args d_reached d_fresh d_coming d_dist d_stack d_locals d_fields := by
  have hin := vp_in_nI (n := p) (N := 16) (by omega) (by decide)
  have ep : (nI p).toNatClampNeg = p := nI_clamp (by omega)
  have key : ∀ f : Bool, (f = true ↔ (o = 10 ∨ o = 11) ∧ (d_args p < 0 ∨ nI n ≤ d_args p)) → wY_faultOf_204 post (nI p) (nI o) (pj_bI k) (pj_bI f) g_greatest g_poolSize g_count g_doing g_pc g_tall g_made g_forks g_bits d_ops d_args d_reached d_fresh d_coming d_dist d_stack d_locals d_fields := fun f hf => by
    refine my_f204 hn hp ho hc k f ?_
    have e : (f || decide (o ≠ 10 ∧ o ≠ 13 ∧ n ≤ p + 1)) = pj_lv n o p (d_args p) := by
      unfold pj_lv
      rw [Bool.eq_iff_iff, Bool.or_eq_true, hf, decide_eq_true_iff, decide_eq_true_iff]
    rw [e]
    exact H
  have f177 : (o = 10 ∨ o = 11) → wY_faultOf_177 post (nI p) (nI o) (pj_bI k) g_greatest g_poolSize g_count g_doing g_pc g_tall g_made g_forks g_bits d_ops d_args d_reached d_fresh d_coming d_dist d_stack d_locals d_fields := fun h => by
    refine ⟨hin, ?_⟩
    rw [ep]
    refine br_c (fun h0 => key true ⟨fun _ => ⟨h, Or.inl h0⟩, fun _ => rfl⟩) (fun h0 => ⟨hin, ?_⟩)
    refine br_c (fun h1 => key false ⟨fun z => absurd z (by decide), fun z => ?_⟩) (fun h1 => key true ⟨fun _ => ⟨h, Or.inr ?_⟩, fun _ => rfl⟩)
    · rw [hc] at h1
      exact z.2.elim (fun z => absurd z h0) (fun z => absurd h1 (Int32.not_lt.mpr z))
    · rw [hc] at h1
      exact Int32.not_lt.mp h1
  refine pk_eq o 10 (fun h => f177 (Or.inl h)) (fun h10 => pk_eq o 11 (fun h => f177 (Or.inr h)) (fun h11 => ?_))
  exact key false ⟨fun z => absurd z (by decide), fun z => z.1.elim (fun z => absurd z h10) (fun z => absurd z h11)⟩
theorem my_f76 {post : Int32 → Prop} {p o a b : Nat} (ho : o ≤ 13) (ha : a < 3) (hb : b < 3) (K : wY_faultOf_161 post (nI p) (nI o) (pj_bI (pj_kb o a b)) g_greatest g_poolSize g_count g_doing g_pc g_tall g_made g_forks g_bits d_ops d_args d_reached d_fresh d_coming d_dist d_stack d_locals d_fields) : wY_faultOf_76 post (nI p) (nI o) (nI a) (nI b) g_greatest g_poolSize g_count g_doing g_pc g_tall g_made g_forks g_bits d_ops d_args d_reached d_fresh d_coming d_dist d_stack d_locals d_fields := by
  have bad : ((o = 5 ∧ (a ≠ 0 ∨ b ≠ 0)) ∨ (o = 6 ∧ a ≠ 1) ∨ (o = 7 ∧ (a ≠ 0 ∨ b ≠ 1)) ∨ (o = 12 ∧ (a ≠ 1 ∨ b ≠ 1)) ∨ (o = 13 ∧ a ≠ 0)) → wY_faultOf_156 post (nI p) (nI o) g_greatest g_poolSize g_count g_doing g_pc g_tall g_made g_forks g_bits d_ops d_args d_reached d_fresh d_coming d_dist d_stack d_locals d_fields := fun h => by
    rw [show pj_kb o a b = true from decide_eq_true h] at K
    exact K
  have good : ¬ ((o = 5 ∧ (a ≠ 0 ∨ b ≠ 0)) ∨ (o = 6 ∧ a ≠ 1) ∨ (o = 7 ∧ (a ≠ 0 ∨ b ≠ 1)) ∨ (o = 12 ∧ (a ≠ 1 ∨ b ≠ 1)) ∨ (o = 13 ∧ a ≠ 0)) → wY_faultOf_160 post (nI p) (nI o) g_greatest g_poolSize g_count g_doing g_pc g_tall g_made g_forks g_bits d_ops d_args d_reached d_fresh d_coming d_dist d_stack d_locals d_fields := fun h => by
    rw [show pj_kb o a b = false from decide_eq_false h] at K
    exact K
  have c144 : (o = 5 → a = 0 ∧ b = 0) → (o = 6 → a = 1) → (o = 7 → a = 0 ∧ b = 1) → (o = 12 → a = 1 ∧ b = 1) → wY_faultOf_144 post (nI p) (nI o) (nI a) g_greatest g_poolSize g_count g_doing g_pc g_tall g_made g_forks g_bits d_ops d_args d_reached d_fresh d_coming d_dist d_stack d_locals d_fields := fun h5 h6 h7 h12 =>
    pk_eq o 13 (fun h => pk_eq a 0 (fun h' => good (by omega)) (fun h' => bad (by omega))) (fun h => good (by omega))
  have c125 : (o = 5 → a = 0 ∧ b = 0) → (o = 6 → a = 1) → (o = 7 → a = 0 ∧ b = 1) → wY_faultOf_125 post (nI p) (nI o) (nI a) (nI b) g_greatest g_poolSize g_count g_doing g_pc g_tall g_made g_forks g_bits d_ops d_args d_reached d_fresh d_coming d_dist d_stack d_locals d_fields := fun h5 h6 h7 =>
    pk_eq o 12 (fun h => pk_eq a 1 (fun h' => pk_eq b 1 (fun h'' => c144 h5 h6 h7 (fun _ => ⟨h', h''⟩)) (fun h'' => bad (by omega))) (fun h' => bad (by omega))) (fun h => c144 h5 h6 h7 (fun z => absurd z h))
  have c107 : (o = 5 → a = 0 ∧ b = 0) → (o = 6 → a = 1) → wY_faultOf_107 post (nI p) (nI o) (nI a) (nI b) g_greatest g_poolSize g_count g_doing g_pc g_tall g_made g_forks g_bits d_ops d_args d_reached d_fresh d_coming d_dist d_stack d_locals d_fields := fun h5 h6 =>
    pk_eq o 7 (fun h => pk_eq a 0 (fun h' => pk_eq b 1 (fun h'' => c125 h5 h6 (fun _ => ⟨h', h''⟩)) (fun h'' => bad (by omega))) (fun h' => bad (by omega))) (fun h => c125 h5 h6 (fun z => absurd z h))
  have c94 : (o = 5 → a = 0 ∧ b = 0) → wY_faultOf_94 post (nI p) (nI o) (nI a) (nI b) g_greatest g_poolSize g_count g_doing g_pc g_tall g_made g_forks g_bits d_ops d_args d_reached d_fresh d_coming d_dist d_stack d_locals d_fields := fun h5 =>
    pk_eq o 6 (fun h => pk_eq a 1 (fun h' => c107 h5 (fun _ => h')) (fun h' => bad (by omega))) (fun h => c107 h5 (fun z => absurd z h))
  exact pk_eq o 5 (fun h => pk_eq a 0 (fun h' => pk_eq b 0 (fun h'' => c94 (fun _ => ⟨h', h''⟩)) (fun h'' => bad (by omega))) (fun h' => bad (by omega))) (fun h => c94 (fun z => absurd z h))
theorem my_faultOf {post : Int32 → Prop} {p s : Nat} (W : pj_PG n mh O G) (hp : p < n) (hs : s < 1089) (hO : d_ops = pj_nF O) (hG : d_args = G) (hmh : g_greatest = nI mh) (hc : g_count = nI n)
    (H : post (nI (pj_fl n mh (O p) p (G p) s))) : wpY_faultOf post (g_greatest, g_poolSize, g_count, g_doing, g_pc, g_tall, g_made, g_forks, g_bits, d_ops, d_args, d_reached, d_fresh, d_coming, d_dist, d_stack, d_locals, d_fields) (nI s) (nI p) := by
  subst hG
  obtain ⟨hn, m1, m4, hO13, hA⟩ := W
  have ho := hO13 p hp
  have hin := vp_in_nI (n := p) (N := 16) (by omega) (by decide)
  have e0 : d_ops (nI p).toNatClampNeg = nI (O p) := by rw [nI_clamp (by omega), hO]; rfl
  have e9 : nI s / 9 = nI (s / 9) := by rw [pj_n9, pk_div (by omega) (by omega) (by omega)]
  unfold wpY_faultOf
  refine my_stuck (by omega) hs hO ho hmh m4 ?_
  refine pk_eq (pj_sk mh (O p) s) 0 (fun hk => ⟨hin, nm_r e0 ⟨by decide, nm_r e9 ?_⟩⟩) (fun hk => ?_) rfl rfl (by unfold pj_sk; (repeat' split) <;> omega)
  · have H' : post (nI ((if pj_kb (O p) (pj_tp (s / 9)) (pj_tp (pj_rs (s / 9))) then 4 else 0) + (if pj_lv n (O p) p (d_args p) then 8 else 0))) := by
      unfold pj_fl at H
      rw [if_neg (by omega)] at H
      exact H
    clear H
    have hv : s / 9 < 121 := by omega
    generalize s / 9 = v at *
    have hr := pj_rs121 hv
    have k76 : wY_faultOf_76 post (nI p) (nI (O p)) (nI (pj_tp v)) (nI (pj_tp (pj_rs v))) g_greatest g_poolSize g_count g_doing g_pc g_tall g_made g_forks g_bits d_ops d_args d_reached d_fresh d_coming d_dist d_stack d_locals d_fields := my_f76 ho (pj_tp3 v) (pj_tp3 (pj_rs v)) (my_f161 hn hp ho hc _ H')
    have k59 : wY_faultOf_59 post (nI p) (nI (O p)) (nI (pj_tp v)) (nI (pj_rs v)) g_greatest g_poolSize g_count g_doing g_pc g_tall g_made g_forks g_bits d_ops d_args d_reached d_fresh d_coming d_dist d_stack d_locals d_fields := by
      by_cases c : pj_rs v = 0
      · refine br_t (by rw [c]; decide) ?_
        have e : pj_tp (pj_rs v) = 0 := by rw [c]; rfl
        rw [e] at k76
        exact k76
      · refine br_f (nI_nle (by omega) (by omega)) ⟨by decide, ?_⟩
        rw [pj_tpI (by omega) (by omega)]
        exact k76
    have k42 : wY_faultOf_42 post (nI p) (nI (O p)) (nI v) (nI (pj_tp v)) g_greatest g_poolSize g_count g_doing g_pc g_tall g_made g_forks g_bits d_ops d_args d_reached d_fresh d_coming d_dist d_stack d_locals d_fields := by
      by_cases c : v = 0
      · refine br_t (by rw [c]; decide) ?_
        have e : pj_rs v = 0 := by rw [c]; rfl
        rw [e] at k59
        exact k59
      · refine br_f (nI_nle (by omega) (by omega)) ⟨by decide, ?_⟩
        rw [pj_rsI (by omega) (by omega)]
        exact k59
    by_cases c : v = 0
    · refine br_t (by rw [c]; decide) ?_
      have e : pj_tp v = 0 := by rw [c]; rfl
      rw [e] at k42
      exact k42
    · refine br_f (nI_nle (by omega) (by omega)) ⟨by decide, ?_⟩
      rw [pj_tpI (by omega) (by omega)]
      exact k42
  · unfold pj_fl at H
    rw [if_pos hk] at H
    exact H
theorem my_faults {post : Int32 → Prop} {p : Nat} (W : pj_PG n mh O G) (hp : p < n) (hO : d_ops = pj_nF O) (hG : d_args = G) (hmh : g_greatest = nI mh) (hc : g_count = nI n) (C : pj_CY n mh O G d_reached d_dist)
    (H : ∀ r, (∀ b, b < 32 → (bt r b = true ↔ ∃ s, pj_Rc n mh O G p s ∧ bt (nI (pj_fl n mh (O p) p (G p) s)) b = true)) → post r) : wpY_faults post (g_greatest, g_poolSize, g_count, g_doing, g_pc, g_tall, g_made, g_forks, g_bits, d_ops, d_args, d_reached, d_fresh, d_coming, d_dist, d_stack, d_locals, d_fields) (nI p) := by
  have hn := W.1
  have L : ∀ d i x2, i + d = 1089 → (∀ b, b < 32 → (bt x2 b = true ↔ ∃ s, s < i ∧ pj_Rc n mh O G p s ∧ bt (nI (pj_fl n mh (O p) p (G p) s)) b = true)) → wY_faults_16 post (nI p) g_greatest g_poolSize g_count g_doing g_pc g_tall g_made g_forks g_bits d_ops d_args d_reached d_fresh d_coming d_dist d_stack d_locals d_fields (d + 1) x2 (nI i) := by
    intro d
    induction d with
    | zero =>
      intro i x2 hi hx
      have e : i = 1089 := by omega
      subst e
      exact br_t (by decide) (H x2 (fun b hb => (hx b hb).trans ⟨fun ⟨s, _, h⟩ => ⟨s, h⟩, fun ⟨s, h⟩ => ⟨s, (pj_Rlt W h.1).2, h⟩⟩))
    | succ d ih =>
      intro i x2 hi hx
      refine br_f (nI_ge (b := 1089) (by omega) (by decide)) ⟨vp_in_nI (by omega) (by decide), ?_⟩
      rw [nI_clamp (by omega)]
      have hR := C.1 i p (by omega) (by omega)
      by_cases c : bt (d_reached i) p = true
      · refine br_t ((pj_bit _ (by omega)).mpr c) (my_faultOf W hp (by omega) hO hG hmh hc (nm_e (nm_r (nI_1 i) (ih (i + 1) _ (by omega) (fun b hb => ?_)))))
        rw [b_or, Bool.or_eq_true, hx b hb]
        refine Iff.trans (or_congr Iff.rfl ?_) (pj_exs (fun i _ => Iff.rfl)).symm
        exact ⟨fun z => ⟨hR.mp c, z⟩, fun z => z.2⟩
      · refine br_f (fun z => c ((pj_bit _ (by omega)).mp z)) (nm_r (nI_1 i) (ih (i + 1) x2 (by omega) (fun b hb => ?_)))
        rw [hx b hb]
        refine Iff.trans ?_ (pj_exs (fun i _ => Iff.rfl)).symm
        exact ⟨Or.inl, fun z => z.elim id (fun z => absurd (hR.mpr z.1) c)⟩
  refine br_f (nI_pos (by omega)) (br_f (by rw [hc]; exact nI_ge hp (by omega)) ⟨1090, L 1089 0 0 (by omega) (fun b hb => ?_)⟩)
  rw [b_0]
  exact ⟨fun z => absurd z (by decide), fun ⟨s, z, _⟩ => by omega⟩
theorem my_heights {post : Int32 → Prop} {p : Nat} (W : pj_PG n mh O G) (hp : p < n) (hc : g_count = nI n) (C : pj_CY n mh O G d_reached d_dist)
    (H : ∀ r, (∀ b, b < 32 → (bt r b = true ↔ ∃ s, pj_Rc n mh O G p s ∧ pj_hg (s / 9) = b)) → post r) : wpY_heights post (g_greatest, g_poolSize, g_count, g_doing, g_pc, g_tall, g_made, g_forks, g_bits, d_ops, d_args, d_reached, d_fresh, d_coming, d_dist, d_stack, d_locals, d_fields) (nI p) := by
  have hn := W.1
  have L : ∀ d i x2, i + d = 1089 → (∀ b, b < 32 → (bt x2 b = true ↔ ∃ s, s < i ∧ pj_Rc n mh O G p s ∧ pj_hg (s / 9) = b)) → wY_heights_16 post (nI p) g_greatest g_poolSize g_count g_doing g_pc g_tall g_made g_forks g_bits d_ops d_args d_reached d_fresh d_coming d_dist d_stack d_locals d_fields (d + 1) x2 (nI i) := by
    intro d
    induction d with
    | zero =>
      intro i x2 hi hx
      have e : i = 1089 := by omega
      subst e
      exact br_t (by decide) (H x2 (fun b hb => (hx b hb).trans ⟨fun ⟨s, _, h⟩ => ⟨s, h⟩, fun ⟨s, h⟩ => ⟨s, (pj_Rlt W h.1).2, h⟩⟩))
    | succ d ih =>
      intro i x2 hi hx
      refine br_f (nI_ge (b := 1089) (by omega) (by decide)) ⟨vp_in_nI (by omega) (by decide), ?_⟩
      rw [nI_clamp (by omega)]
      have hR := C.1 i p (by omega) (by omega)
      have h4 := pj_hgle (i / 9)
      by_cases c : bt (d_reached i) p = true
      · refine br_t ((pj_bit _ (by omega)).mpr c) ⟨by decide, ?_⟩
        rw [pj_n9, pk_div (by omega) (by omega) (by omega)]
        refine my_heightOf (by omega) (nm_e (nm_r (nI_1 i) (ih (i + 1) _ (by omega) (fun b hb => ?_))))
        rw [b_or, Bool.or_eq_true, hx b hb, pj_bt1 _ (by omega) b hb, decide_eq_true_iff]
        refine Iff.trans (or_congr Iff.rfl ?_) (pj_exs (fun i _ => Iff.rfl)).symm
        exact ⟨fun z => ⟨hR.mp c, z⟩, fun z => z.2⟩
      · refine br_f (fun z => c ((pj_bit _ (by omega)).mp z)) (nm_r (nI_1 i) (ih (i + 1) x2 (by omega) (fun b hb => ?_)))
        rw [hx b hb]
        refine Iff.trans ?_ (pj_exs (fun i _ => Iff.rfl)).symm
        exact ⟨Or.inl, fun z => z.elim id (fun z => absurd (hR.mpr z.1) c)⟩
  refine br_f (nI_pos (by omega)) (br_f (by rw [hc]; exact nI_ge hp (by omega)) ⟨1090, L 1089 0 0 (by omega) (fun b hb => ?_)⟩)
  rw [b_0]
  exact ⟨fun z => absurd z (by decide), fun ⟨s, z, _⟩ => by omega⟩
theorem my_digitL {post : Int32 → Prop} {v pl : Nat} (hv : v < 121) (hpl : pl < pj_hg v) (H : post (nI (pj_dg v pl))) : ∀ d k, k + d = pj_hg v - 1 - pl → wY_digitAt_31 post (nI pl) g_greatest g_poolSize g_count g_doing g_pc g_tall g_made g_forks g_bits d_ops d_args d_reached d_fresh d_coming d_dist d_stack d_locals d_fields (d + 1) (nI (pj_pp k v)) (nI (pj_hg v - 1 - k)) := by
  have h4 := pj_hgle v
  intro d
  induction d with
  | zero =>
    intro k hk
    have hpos := pj_pp0 v hv k (by omega) (by omega)
    have hle := pj_pplt k v
    refine br_t (nI_le (by omega) (by omega)) (br_f (nI_nle hpos (by omega)) ⟨by decide, ?_⟩)
    rw [pj_tpI (by omega) hpos]
    have e : pj_tp (pj_pp k v) = pj_dg v pl := by unfold pj_tp pj_dg; rw [← hk]; rfl
    rw [e]
    exact H
  | succ d ih =>
    intro k hk
    have hpos := pj_pp0 v hv k (by omega) (by omega)
    have hle := pj_pplt k v
    refine br_f (nI_ge (by omega) (by omega)) (br_f (nI_nle hpos (by omega)) ⟨by decide, ?_⟩)
    refine nm_r (e' := nI (pj_pp (k + 1) v)) ?_ (nm_r (e' := nI (pj_hg v - 1 - (k + 1))) ?_ (ih (k + 1) (by omega)))
    · rw [pj_rsI (by omega) hpos, pj_pps]
      rfl
    · have e : pj_hg v - 1 - k = (pj_hg v - 1 - (k + 1)) + 1 := by omega
      rw [e, pk_m1]
theorem my_digitAt {post : Int32 → Prop} {s pl : Nat} {h : Int32} (hs : s < 1089) (hh : nI (pj_hg (s / 9)) = h) (hpl : pl < pj_hg (s / 9)) (H : post (nI (pj_dg (s / 9) pl))) : wpY_digitAt post (g_greatest, g_poolSize, g_count, g_doing, g_pc, g_tall, g_made, g_forks, g_bits, d_ops, d_args, d_reached, d_fresh, d_coming, d_dist, d_stack, d_locals, d_fields) (nI s) h (nI pl) := by
  have h4 := pj_hgle (s / 9)
  subst hh
  refine pk_eq pl 4 (fun z => by omega) (fun _ => pk_eq pl 5 (fun z => by omega) (fun _ => ⟨by decide, ?_⟩))
  refine nm_r (e' := nI (s / 9)) (by rw [pj_n9, pk_div (by omega) (by omega) (by omega)]) (nm_r (e' := nI (pj_hg (s / 9) - 1 - 0)) (by rw [pj_n1, pk_sub (by omega)]; rfl) ⟨_, my_digitL (by omega) hpl H (pj_hg (s / 9) - 1 - pl) 0 (by omega)⟩)
theorem my_kindsL {post : Int32 → Prop} {p : Nat} {h pl : Int32} {dgt : Nat → Nat} (W : pj_PG n mh O G) (hp : p < n) (C : pj_CY n mh O G d_reached d_dist) (hd3 : ∀ s, dgt s < 3)
    (hd : ∀ s, s < 1089 → nI (pj_hg (s / 9)) = h → ∀ post : Int32 → Prop, post (nI (dgt s)) → wpY_digitAt post (g_greatest, g_poolSize, g_count, g_doing, g_pc, g_tall, g_made, g_forks, g_bits, d_ops, d_args, d_reached, d_fresh, d_coming, d_dist, d_stack, d_locals, d_fields) (nI s) h pl)
    (H : ∀ r, (∀ b, b < 32 → (bt r b = true ↔ ∃ s, pj_Rc n mh O G p s ∧ nI (pj_hg (s / 9)) = h ∧ dgt s = b)) → post r) : ∃ m : Nat, wY_kinds_37 post (nI p) h pl g_greatest g_poolSize g_count g_doing g_pc g_tall g_made g_forks g_bits d_ops d_args d_reached d_fresh d_coming d_dist d_stack d_locals d_fields m 0 0 := by
  have hn := W.1
  have L : ∀ d i x2, i + d = 1089 → (∀ b, b < 32 → (bt x2 b = true ↔ ∃ s, s < i ∧ pj_Rc n mh O G p s ∧ nI (pj_hg (s / 9)) = h ∧ dgt s = b)) → wY_kinds_37 post (nI p) h pl g_greatest g_poolSize g_count g_doing g_pc g_tall g_made g_forks g_bits d_ops d_args d_reached d_fresh d_coming d_dist d_stack d_locals d_fields (d + 1) x2 (nI i) := by
    intro d
    induction d with
    | zero =>
      intro i x2 hi hx
      have e : i = 1089 := by omega
      subst e
      exact br_t (by decide) (H x2 (fun b hb => (hx b hb).trans ⟨fun ⟨s, _, h⟩ => ⟨s, h⟩, fun ⟨s, h⟩ => ⟨s, (pj_Rlt W h.1).2, h⟩⟩))
    | succ d ih =>
      intro i x2 hi hx
      refine br_f (nI_ge (b := 1089) (by omega) (by decide)) ⟨vp_in_nI (by omega) (by decide), ?_⟩
      rw [nI_clamp (by omega)]
      have hR := C.1 i p (by omega) (by omega)
      have h4 := pj_hgle (i / 9)
      by_cases c : bt (d_reached i) p = true
      · refine br_t ((pj_bit _ (by omega)).mpr c) ⟨by decide, ?_⟩
        rw [pj_n9, pk_div (by omega) (by omega) (by omega)]
        refine my_heightOf (by omega) (br_c (fun hh => ?_) (fun hh => ?_))
        · refine hd i (by omega) hh _ (nm_e (nm_r (nI_1 i) (ih (i + 1) _ (by omega) (fun b hb => ?_))))
          rw [b_or, Bool.or_eq_true, hx b hb, pj_bt1 _ (by have := hd3 i; omega) b hb, decide_eq_true_iff]
          refine Iff.trans (or_congr Iff.rfl ?_) (pj_exs (fun i _ => Iff.rfl)).symm
          exact ⟨fun z => ⟨hR.mp c, hh, z⟩, fun z => z.2.2⟩
        · refine nm_r (nI_1 i) (ih (i + 1) x2 (by omega) (fun b hb => ?_))
          rw [hx b hb]
          refine Iff.trans ?_ (pj_exs (fun i _ => Iff.rfl)).symm
          exact ⟨Or.inl, fun z => z.elim id (fun z => absurd z.2.1 hh)⟩
      · refine br_f (fun z => c ((pj_bit _ (by omega)).mp z)) (nm_r (nI_1 i) (ih (i + 1) x2 (by omega) (fun b hb => ?_)))
        rw [hx b hb]
        refine Iff.trans ?_ (pj_exs (fun i _ => Iff.rfl)).symm
        exact ⟨Or.inl, fun z => z.elim id (fun z => absurd (hR.mpr z.1) c)⟩
  refine ⟨1090, L 1089 0 0 (by omega) (fun b hb => ?_)⟩
  rw [b_0]
  exact ⟨fun z => absurd z (by decide), fun ⟨s, z, _⟩ => by omega⟩
theorem my_verdict {post : Int32 → Prop} (W : pj_PG n mh O G) (hO : d_ops = pj_nF O) (hG : d_args = G) (hmh : g_greatest = nI mh) (hc : g_count = nI n) (C : pj_CY n mh O G d_reached d_dist)
    (H2 : n = 0 → post 2) (H0 : 0 < n → (∀ p s, pj_Rc n mh O G p s → pj_fl n mh (O p) p (G p) s = 0) → post 0) (H1 : 0 < n → ¬ (∀ p s, pj_Rc n mh O G p s → pj_fl n mh (O p) p (G p) s = 0) → post 1) : wpY_verdict post (g_greatest, g_poolSize, g_count, g_doing, g_pc, g_tall, g_made, g_forks, g_bits, d_ops, d_args, d_reached, d_fresh, d_coming, d_dist, d_stack, d_locals, d_fields) := by
  have hn := W.1
  refine pk_eq n 0 H2 (fun h0 => ?_) hc rfl
  have L : ∀ d i x1, i + d = n → (∀ b, b < 32 → (bt x1 b = true ↔ ∃ p, p < i ∧ ∃ s, pj_Rc n mh O G p s ∧ bt (nI (pj_fl n mh (O p) p (G p) s)) b = true)) → wY_verdict_13 post g_greatest g_poolSize g_count g_doing g_pc g_tall g_made g_forks g_bits d_ops d_args d_reached d_fresh d_coming d_dist d_stack d_locals d_fields (d + 1) x1 (nI i) := by
    intro d
    induction d with
    | zero =>
      intro i x1 hi hx
      have e : i = n := by omega
      subst e
      refine br_t (by rw [hc]; exact nI_le (Nat.le_refl _) (by omega)) ?_
      by_cases c : x1 = 0
      · refine br_t c (H0 (by omega) (fun p s hs => pj_nz _ pj_flz (fun b hb => ?_)))
        cases hbt : bt (nI (pj_fl i mh (O p) p (G p) s)) b
        · rfl
        · have := (hx b hb).mpr ⟨p, (pj_Rlt W hs).1, s, hs, hbt⟩
          rw [c, b_0] at this
          exact absurd this (by decide)
      · refine br_f c (H1 (by omega) (fun z => c ?_))
        apply b_ext
        intro b hb
        rw [b_0]
        cases hbt : bt x1 b
        · rfl
        · obtain ⟨p, _, s, h1, h2⟩ := (hx b hb).mp hbt
          rw [z p s h1] at h2
          have : bt 0 b = true := h2
          rw [b_0] at this
          exact this.symm
    | succ d ih =>
      intro i x1 hi hx
      refine br_f (by rw [hc]; exact nI_ge (by omega) (by omega)) ?_
      refine my_faults W (by omega) hO hG hmh hc C (fun r hr => nm_e (nm_r (nI_1 i) (ih (i + 1) _ (by omega) (fun b hb => ?_))))
      rw [b_or, Bool.or_eq_true, hx b hb, hr b hb]
      exact (pj_exs (A := fun p => ∃ s, pj_Rc n mh O G p s ∧ bt (nI (pj_fl n mh (O p) p (G p) s)) b = true) (fun i _ => Iff.rfl)).symm
  refine ⟨n + 1, L n 0 0 (by omega) (fun b hb => ?_)⟩
  rw [b_0]
  exact ⟨fun z => absurd z (by decide), fun ⟨s, z, _⟩ => by omega⟩
end
