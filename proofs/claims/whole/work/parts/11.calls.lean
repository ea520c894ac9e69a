/-! the calls that set, clear and start; kinds and cell -/
theorem pj_ref (op arg : Int32) : (op < 0 ∨ ¬ op ≤ 13) ∨ (∃ o, o ≤ 13 ∧ op = nI o ∧ (o = 8 ∨ o = 9) ∧ ¬ (arg = 0 ∨ arg = 1)) ∨ (∃ o, o ≤ 13 ∧ op = nI o ∧ ((o = 8 ∨ o = 9) → (arg = 0 ∨ arg = 1))) := by
  rcases pk_ix op (n := 14) (by omega) with h | h | ⟨o, ho, rfl⟩
  · exact Or.inl (Or.inl h)
  · exact Or.inl (Or.inr (fun z => absurd (Int32.le_trans h z) (by decide)))
  · by_cases c : arg = 0 ∨ arg = 1
    · exact Or.inr (Or.inr ⟨o, by omega, rfl, fun _ => c⟩)
    · by_cases c2 : o = 8 ∨ o = 9
      · exact Or.inr (Or.inl ⟨o, by omega, rfl, c2, c⟩)
      · exact Or.inr (Or.inr ⟨o, by omega, rfl, fun z => absurd z c2⟩)
theorem mx_refA {post : Int32 → Prop} {op arg : Int32} (h : op < 0 ∨ ¬ op ≤ 13) (H : post (-2)) : wpX_refusalOf post op arg := by
  by_cases h0 : op < 0
  · exact br_t h0 H
  · exact br_f h0 (br_f (h.elim (fun z => absurd z h0) id) H)
theorem mx_refB {post : Int32 → Prop} {o : Nat} {arg : Int32} (h : o = 8 ∨ o = 9) (h2 : ¬ (arg = 0 ∨ arg = 1)) (H : post (-3)) : wpX_refusalOf post (nI o) arg := by
  have k : wX_refusalOf_25 post arg := by
    refine br_f (by decide) ?_
    rcases pk_ix arg (n := 2) (by omega) with z | z | ⟨j, hj, rfl⟩
    · exact br_t z H
    · by_cases h0 : arg < 0
      · exact br_t h0 H
      · exact br_f h0 (br_f (Int32.not_lt.mpr z) H)
    · exact absurd (by have : j = 0 ∨ j = 1 := by omega
                       rcases this with rfl | rfl
                       · exact Or.inl rfl
                       · exact Or.inr rfl) h2
  rcases h with rfl | rfl
  · exact br_f (by decide) (br_t (by decide) (br_t (by decide) k))
  · exact br_f (by decide) (br_t (by decide) (br_f (by decide) (br_t (by decide) k)))
theorem mx_refC {post : Int32 → Prop} {o : Nat} {arg : Int32} (ho : o ≤ 13) (h : (o = 8 ∨ o = 9) → (arg = 0 ∨ arg = 1)) (H : post 0) : wpX_refusalOf post (nI o) arg := by
  have k : (o = 8 ∨ o = 9) → wX_refusalOf_25 post arg := fun z => by
    rcases h z with rfl | rfl
    · exact br_f (by decide) (br_f (by decide) (br_t (by decide) H))
    · exact br_f (by decide) (br_f (by decide) (br_t (by decide) H))
  refine br_f (nI_pos (by omega)) (br_t (nI_le (b := 13) ho (by decide)) ?_)
  exact pk_eq o 8 (fun z => k (Or.inl z)) (fun _ => pk_eq o 9 (fun z => k (Or.inr z)) (fun _ => br_t rfl H))
section
variable {g_greatest g_poolSize g_count g_doing g_pc g_tall g_made g_forks g_bits : Int32} {d_ops d_args d_reached d_fresh d_coming d_dist d_stack d_locals d_fields : Nat → Int32} {n mh : Nat} {O : Nat → Nat} {G : Nat → Int32}
theorem my_refA {post : Int32 → Prop} {op arg : Int32} (h : op < 0 ∨ ¬ op ≤ 13) (H : post (-2)) : wpY_complaint post (g_greatest, g_poolSize, g_count, g_doing, g_pc, g_tall, g_made, g_forks, g_bits, d_ops, d_args, d_reached, d_fresh, d_coming, d_dist, d_stack, d_locals, d_fields) op arg := by
  by_cases h0 : op < 0
  · exact br_t h0 H
  · exact br_f h0 (br_f (h.elim (fun z => absurd z h0) id) H)
theorem my_refB {post : Int32 → Prop} {o : Nat} {arg : Int32} (h : o = 8 ∨ o = 9) (h2 : ¬ (arg = 0 ∨ arg = 1)) (H : post (-3)) : wpY_complaint post (g_greatest, g_poolSize, g_count, g_doing, g_pc, g_tall, g_made, g_forks, g_bits, d_ops, d_args, d_reached, d_fresh, d_coming, d_dist, d_stack, d_locals, d_fields) (nI o) arg := by
  have k : wY_complaint_25 post arg g_greatest g_poolSize g_count g_doing g_pc g_tall g_made g_forks g_bits d_ops d_args d_reached d_fresh d_coming d_dist d_stack d_locals d_fields := br_f (fun z => h2 (Or.inl z)) (br_f (fun z => h2 (Or.inr z)) H)
  rcases h with rfl | rfl
  · exact br_f (by decide) (br_t (by decide) (br_t (by decide) k))
  · exact br_f (by decide) (br_t (by decide) (br_f (by decide) (br_t (by decide) k)))
theorem my_refC {post : Int32 → Prop} {o : Nat} {arg : Int32} (ho : o ≤ 13) (h : (o = 8 ∨ o = 9) → (arg = 0 ∨ arg = 1)) (H : post 0) : wpY_complaint post (g_greatest, g_poolSize, g_count, g_doing, g_pc, g_tall, g_made, g_forks, g_bits, d_ops, d_args, d_reached, d_fresh, d_coming, d_dist, d_stack, d_locals, d_fields) (nI o) arg := by
  have k : (o = 8 ∨ o = 9) → wY_complaint_25 post arg g_greatest g_poolSize g_count g_doing g_pc g_tall g_made g_forks g_bits d_ops d_args d_reached d_fresh d_coming d_dist d_stack d_locals d_fields := fun z => by
    rcases h z with rfl | rfl
    · exact br_t (by decide) H
    · exact br_f (by decide) (br_t (by decide) H)
  refine br_f (nI_pos (by omega)) (br_t (nI_le (b := 13) ho (by decide)) ?_)
  exact pk_eq o 8 (fun z => k (Or.inl z)) (fun _ => pk_eq o 9 (fun z => k (Or.inr z)) (fun _ => H))
end
section
variable {f_maxHeight f_pool f_length f_faulty f_queued f_kindHeight f_status f_position f_height f_records f_choices f_forks : Int32} {a_ops a_args a_faultBits a_heightBits a_kindBits a_leastSteps a_queue a_queueSteps a_reached a_kindStack a_kindLocals a_stack a_locals a_fields : Nat → Int32} {n mh : Nat} {O : Nat → Nat} {G : Nat → Int32}
theorem mx_reset {post : SX → Prop} {x : Int32} (H : post (f_maxHeight, f_pool, f_length, f_faulty, f_queued, f_kindHeight, x, 0, 0, 0, f_choices, 0, a_ops, a_args, a_faultBits, a_heightBits, a_kindBits, a_leastSteps, a_queue, a_queueSteps, a_reached, a_kindStack, a_kindLocals, a_stack, upd (upd a_locals 0 0) 1 0, a_fields)) : wpX_resetMachine post (f_maxHeight, f_pool, f_length, f_faulty, f_queued, f_kindHeight, f_status, f_position, f_height, f_records, f_choices, f_forks, a_ops, a_args, a_faultBits, a_heightBits, a_kindBits, a_leastSteps, a_queue, a_queueSteps, a_reached, a_kindStack, a_kindLocals, a_stack, a_locals, a_fields) x := nm_e (nm_e H)
theorem mx_set {post : SX → Prop} {p o : Nat} {g : Int32} (W : pj_PG n mh (pj_uN O p o) (upd G p g)) (hp : p < n) (hmh : f_maxHeight = nI mh) (hl : f_length = nI n) (hO : a_ops = pj_nF O) (hG : a_args = G) (S : pj_SQ f_queued a_queue a_queueSteps a_reached)
    (H : ∀ fy fq kh fb hb kb ls aq aqs R ks kl, pj_SQ fq aq aqs R → pj_CX n mh (pj_uN O p o) (upd G p g) fy fb hb kb ls → post (f_maxHeight, f_pool, f_length, fy, fq, kh, 0, 0, 0, 0, f_choices, 0, pj_nF (pj_uN O p o), upd G p g, fb, hb, kb, ls, aq, aqs, R, ks, kl, a_stack, upd (upd a_locals 0 0) 1 0, a_fields)) : wpX_setInstruction post (f_maxHeight, f_pool, f_length, f_faulty, f_queued, f_kindHeight, f_status, f_position, f_height, f_records, f_choices, f_forks, a_ops, a_args, a_faultBits, a_heightBits, a_kindBits, a_leastSteps, a_queue, a_queueSteps, a_reached, a_kindStack, a_kindLocals, a_stack, a_locals, a_fields) (nI p) (nI o) g := by
  have hn := W.1
  have hin := vp_in_nI (n := p) (N := 16) (by omega) (by decide)
  subst hO hG
  refine ⟨hin, nm_e ⟨hin, nm_e ?_⟩⟩
  rw [nI_clamp (by omega), pj_nFu]
  refine mx_judge W (by omega) hmh hl rfl rfl S (fun fy fq kh fb hb kb ls aq aqs R ks kl h1 h2 => ?_)
  exact mx_reset (H _ _ _ _ _ _ _ _ _ _ _ _ h1 h2)
end
theorem pj_PGset {n n' mh p o : Nat} {O : Nat → Nat} {G : Nat → Int32} {g : Int32} (W : pj_PG n mh O G) (hn' : n' ≤ 16) (hs : ∀ q, q < n' → q ≠ p → q < n) (ho : o ≤ 13) (hg : (o = 8 ∨ o = 9) → (g = 0 ∨ g = 1)) : pj_PG n' mh (pj_uN O p o) (upd G p g) := by
  obtain ⟨hn, m1, m4, hO, hA⟩ := W
  refine ⟨hn', m1, m4, fun q hq => ?_, fun q hq => ?_⟩
  · by_cases e : q = p
    · subst e; rw [pj_uNs]; exact ho
    · rw [pj_uNn e]; exact hO q (hs q hq e)
  · by_cases e : q = p
    · subst e; rw [pj_uNs, pk_us]; exact hg
    · rw [pj_uNn e, pk_un e]; exact hA q (hs q hq e)
theorem pj_M0 {n mh : Nat} {O : Nat → Nat} {G : Nat → Int32} {pl : Nat} {fo : Int32} {sta lo : Nat → Int32} {pc ta ma yf : Int32} {yl : Nat → Int32} : pj_M n mh O G pl 0 0 0 0 fo sta (upd (upd lo 0 0) 1 0) pc ta ma yf yl :=
  Or.inl ⟨rfl, rfl, rfl, rfl, by rw [pk_un (by decide), pk_us], by rw [pk_us]⟩
theorem i_vc_emit {k : Nat} {u : SX} {v : SY} (I : i_Rel k u v) (hk : k + 4 ≤ 2050) (v1 : Int32) (v2 : Int32) : wpX_emit (fun r u' => wpY_emit (fun r' v' => r' = r ∧ i_Rel (k + 4) u' v') v v1 v2) u v1 v2 := by
  have I' := i_up I
  obtain ⟨n, mh, pl, O, G, fy, fq, kh, st, po, he, re, ch, fo, fb, hb, kb, ls, aq, aqs, ar, ks, kl, sta, lo, fie, pc, ta, ma, yf, rc, fr, cm, ds, yl, rfl, rfl, W, p1, p8, S, CX, CY, M⟩ := I
  have hn := W.1
  unfold wpX_emit
  refine pk_lt n 16 (fun hlt => ?_) (fun hge => ?_)
  · rcases pj_ref v1 v2 with h | ⟨o, ho, rfl, h1, h2⟩ | ⟨o, ho, rfl, h1⟩
    · exact mx_refA h (br_f (by decide) (br_t (nI_lt (b := 16) hlt (by decide)) (my_refA h (br_f (by decide) ⟨rfl, I'⟩))))
    · exact mx_refB h1 h2 (br_f (by decide) (br_t (nI_lt (b := 16) hlt (by decide)) (my_refB h1 h2 (br_f (by decide) ⟨rfl, I'⟩))))
    · refine mx_refC ho h1 (br_t rfl (nm_r (nI_1 n) ?_))
      have W' : pj_PG (n + 1) mh (pj_uN O n o) (upd G n v2) := pj_PGset W (by omega) (fun q hq e => by omega) ho h1
      refine mx_set W' (by omega) rfl rfl rfl rfl S (fun fy fq kh fb hb kb ls aq aqs R ks kl S' CX' => ?_)
      have hin := vp_in_nI (n := n) (N := 16) (by omega) (by decide)
      refine br_t (nI_lt (b := 16) hlt (by decide)) (my_refC ho h1 (br_t rfl ⟨hin, nm_e ⟨hin, nm_e (nm_r (nI_1 n) ?_)⟩⟩))
      rw [nI_clamp (by omega), pj_nFu]
      refine my_judge W' rfl rfl rfl rfl (fun rc fr cm ds CY' => ⟨nI_pred n, ?_⟩)
      exact ⟨n + 1, mh, pl, _, _, _, _, _, _, _, _, _, _, _, _, _, _, _, _, _, _, _, _, _, _, _, _, _, _, _, _, _, _, _, _, rfl, rfl, W', p1, p8, S', fun _ => CX', CY', pj_M0⟩
  · exact br_f (nI_nlt (b := 16) hge (by omega)) ⟨rfl, I'⟩
theorem i_vc_patch {k : Nat} {u : SX} {v : SY} (I : i_Rel k u v) (hk : k + 4 ≤ 2050) (v1 : Int32) (v2 : Int32) (v3 : Int32) : wpX_patch (fun r u' => wpY_patch (fun r' v' => r' = r ∧ i_Rel (k + 4) u' v') v v1 v2 v3) u v1 v2 v3 := by
  have I' := i_up I
  obtain ⟨n, mh, pl, O, G, fy, fq, kh, st, po, he, re, ch, fo, fb, hb, kb, ls, aq, aqs, ar, ks, kl, sta, lo, fie, pc, ta, ma, yf, rc, fr, cm, ds, yl, rfl, rfl, W, p1, p8, S, CX, CY, M⟩ := I
  have hn := W.1
  unfold wpX_patch
  refine mx_isPos hn rfl (fun h => br_t rfl ?_) (fun j hj ej => br_f (by decide) ?_)
  · by_cases h0 : v1 < 0
    · exact br_t h0 ⟨rfl, I'⟩
    · exact br_f h0 (br_f (Int32.not_lt.mpr (h.elim (fun z => absurd z h0) id)) ⟨rfl, I'⟩)
  · subst ej
    have y0 : ¬ nI j < 0 := nI_pos (by omega)
    have y1 : nI j < nI n := nI_lt hj (by omega)
    rcases pj_ref v2 v3 with h | ⟨o, ho, rfl, h1, h2⟩ | ⟨o, ho, rfl, h1⟩
    · exact mx_refA h (br_f (by decide) (br_f y0 (br_t y1 (my_refA h (br_f (by decide) ⟨rfl, I'⟩)))))
    · exact mx_refB h1 h2 (br_f (by decide) (br_f y0 (br_t y1 (my_refB h1 h2 (br_f (by decide) ⟨rfl, I'⟩)))))
    · refine mx_refC ho h1 (br_t rfl ?_)
      have W' : pj_PG n mh (pj_uN O j o) (upd G j v3) := pj_PGset W hn (fun q hq e => hq) ho h1
      refine mx_set W' hj rfl rfl rfl rfl S (fun fy fq kh fb hb kb ls aq aqs R ks kl S' CX' => ?_)
      have hin := vp_in_nI (n := j) (N := 16) (by omega) (by decide)
      refine br_f y0 (br_t y1 (my_refC ho h1 (br_t rfl ⟨hin, nm_e ⟨hin, nm_e ?_⟩⟩)))
      rw [nI_clamp (by omega), pj_nFu]
      refine my_judge W' rfl rfl rfl rfl (fun rc fr cm ds CY' => ⟨rfl, ?_⟩)
      exact ⟨n, mh, pl, _, _, _, _, _, _, _, _, _, _, _, _, _, _, _, _, _, _, _, _, _, _, _, _, _, _, _, _, _, _, _, _, rfl, rfl, W', p1, p8, S', fun _ => CX', CY', pj_M0⟩
theorem pj_PG0 {n mh : Nat} {O : Nat → Nat} {G : Nat → Int32} (W : pj_PG n mh O G) : pj_PG 0 mh O G := ⟨by omega, W.2.1, W.2.2.1, fun p hp => by omega, fun p hp => by omega⟩
theorem i_vc_clear {k : Nat} {u : SX} {v : SY} (I : i_Rel k u v) (hk : k + 4 ≤ 2050) : wpX_clear (fun u' => wpY_clear (fun v' => i_Rel (k + 4) u' v') v) u := by
  obtain ⟨n, mh, pl, O, G, fy, fq, kh, st, po, he, re, ch, fo, fb, hb, kb, ls, aq, aqs, ar, ks, kl, sta, lo, fie, pc, ta, ma, yf, rc, fr, cm, ds, yl, rfl, rfl, W, p1, p8, S, CX, CY, M⟩ := I
  unfold wpX_clear
  refine mx_reset ?_
  refine my_judge (pj_PG0 W) rfl rfl rfl rfl (fun rc fr cm ds CY' => ?_)
  exact ⟨0, mh, pl, O, G, _, _, _, _, _, _, _, _, _, _, _, _, _, _, _, _, _, _, _, _, _, _, _, _, _, _, _, _, _, _, rfl, rfl, pj_PG0 W, p1, p8, S, fun z => absurd z (by decide), CY', pj_M0⟩
section
variable {g_greatest g_poolSize g_count g_doing g_pc g_tall g_made g_forks g_bits : Int32} {d_ops d_args d_reached d_fresh d_coming d_dist d_stack d_locals d_fields : Nat → Int32} {n mh : Nat} {O : Nat → Nat} {G : Nat → Int32}
theorem my_start {post : Int32 → SY → Prop} {x : Int32} (W : pj_PG n mh O G) (hO : d_ops = pj_nF O) (hG : d_args = G) (hmh : g_greatest = nI mh) (hc : g_count = nI n) (C : pj_CY n mh O G d_reached d_dist)
    (Hn : ¬ (0 < n ∧ pj_Safe n mh O G) → post 0 (g_greatest, g_poolSize, g_count, g_doing, g_pc, g_tall, g_made, g_forks, g_bits, d_ops, d_args, d_reached, d_fresh, d_coming, d_dist, d_stack, d_locals, d_fields)) (Hy : 0 < n → pj_Safe n mh O G → post 1 (g_greatest, g_poolSize, g_count, 1, 0, 0, 0, 0, x, d_ops, d_args, d_reached, d_fresh, d_coming, d_dist, d_stack, upd (upd d_locals 0 0) 1 0, d_fields)) : wpY_start post (g_greatest, g_poolSize, g_count, g_doing, g_pc, g_tall, g_made, g_forks, g_bits, d_ops, d_args, d_reached, d_fresh, d_coming, d_dist, d_stack, d_locals, d_fields) x := by
  unfold wpY_start
  refine my_verdict W hO hG hmh hc C (fun h => br_f (by decide) (Hn (by omega))) (fun h h' => br_t rfl (nm_e (nm_e (Hy h h')))) (fun h h' => br_f (by decide) (Hn (fun z => h' z.2)))
end
theorem i_vc_start {k : Nat} {u : SX} {v : SY} (I : i_Rel k u v) (hk : k + 4 ≤ 2050) (v1 : Int32) : wpX_start (fun r u' => wpY_start (fun r' v' => r' = r ∧ i_Rel (k + 4) u' v') v v1) u v1 := by
  have I' := i_up I
  obtain ⟨n, mh, pl, O, G, fy, fq, kh, st, po, he, re, ch, fo, fb, hb, kb, ls, aq, aqs, ar, ks, kl, sta, lo, fie, pc, ta, ma, yf, rc, fr, cm, ds, yl, rfl, rfl, W, p1, p8, S, CX, CY, M⟩ := I
  have hn := W.1
  unfold wpX_start
  refine pk_eq n 0 (fun h => ?_) (fun h => ?_)
  · exact br_f (by decide) (my_start W rfl rfl rfl rfl CY (fun _ => ⟨rfl, I'⟩) (fun z => by omega))
  · have cf := (CX (by omega)).2.2.2.2
    refine br_c (fun c => br_t rfl (mx_reset ?_)) (fun c => br_f (by decide) ?_)
    · refine my_start W rfl rfl rfl rfl CY (fun z => absurd ⟨by omega, cf.mp c⟩ z) (fun _ hS => ⟨rfl, ?_⟩)
      refine ⟨n, mh, pl, O, G, _, _, _, _, _, _, _, _, _, _, _, _, _, _, _, _, _, _, _, _, _, _, _, _, _, _, _, _, _, _, rfl, rfl, W, p1, p8, S, CX, CY, Or.inr ⟨by decide, 0, 0, 0, rfl, rfl, rfl, rfl, rfl, rfl, by decide, ?_, ?_, by omega, by omega, by omega, fun _ => ⟨hS, 8, ⟨0, by omega, rfl, rfl⟩, ⟨by decide, fun i hi => by omega⟩, ⟨fun z => absurd z (by decide), fun z => absurd z (by decide)⟩⟩⟩⟩
      · rw [pk_un (by decide), pk_us, pk_un (by decide), pk_us]
      · rw [pk_us, pk_us]
    · exact my_start W rfl rfl rfl rfl CY (fun _ => ⟨rfl, I'⟩) (fun _ z => absurd (cf.mpr z) c)
theorem mx_clamp {post : Int32 → Prop} {x lo hi : Int32} (H1 : x < lo → post lo) (H2 : lo ≤ x → hi < x → post hi) (H3 : lo ≤ x → x ≤ hi → post x) : wpX_clamp post x lo hi := by
  refine br_c (fun h => br_c (fun h' => H3 h h') (fun h' => H2 h (Int32.not_le.mp h'))) (fun h => H1 (Int32.not_le.mp h))
theorem mx_clampM {P Q : Int32 → Prop} {x lo hi : Int32} (h : wpX_clamp P x lo hi) (H : ∀ r, P r → Q r) : wpX_clamp Q x lo hi := by
  obtain ⟨h1, h2⟩ := h
  exact ⟨fun z => ⟨fun y => H _ ((h1 z).1 y), fun y => H _ ((h1 z).2 y)⟩, fun z => H _ (h2 z)⟩
theorem pj_c8 {x : Int32} {N : Nat} (hN : N < 2 ^ 31) (h1 : 1 ≤ x) (h2 : x ≤ nI N) : ∃ m, 1 ≤ m ∧ m ≤ N ∧ x = nI m := by
  have h0 : ¬ x < 0 := fun z => Int32.lt_irrefl (Int32.lt_of_lt_of_le z (Int32.le_trans (by decide) h1))
  obtain ⟨j, hj, rfl⟩ := nI_of h0
  exact ⟨j, (nI_leI (a := 1) (by omega) hj).mp h1, (nI_leI hj hN).mp h2, rfl⟩
theorem i_vc0 (k0 : Int32) (k1 : Int32) : wpX_init (fun u => wpY_init (fun v => i_Rel 2 u v) k0 k1) k0 k1 := by
  have fin : ∀ mh pl : Nat, 1 ≤ mh → mh ≤ 4 → 1 ≤ pl → pl ≤ 8 → wY_init_122 (fun v => i_Rel 2 (nI mh, nI pl, 0, 0, 0, 0, 0, 0, 0, 0, 0, 0, (fun _ => 0), (fun _ => 0), (fun _ => 0), (fun _ => 0), (fun _ => 0), (fun _ => 0), (fun _ => 0), (fun _ => 0), (fun _ => 0), (fun _ => 0), (fun _ => 0), (fun _ => 0), (fun _ => 0), (fun _ => 0)) v) (nI pl) (nI mh) 0 0 0 0 0 0 0 0 (fun _ => 0) (fun _ => 0) (fun _ => 0) (fun _ => 0) (fun _ => 0) (fun _ => 0) (fun _ => 0) (fun _ => 0) (fun _ => 0) := fun mh pl a b c d => by
    have W : pj_PG 0 mh (fun _ => 0) (fun _ => 0) := ⟨by omega, a, b, fun p hp => by omega, fun p hp => by omega⟩
    unfold wY_init_122
    refine my_judge W rfl rfl rfl rfl (fun rc fr cm ds CY' => ?_)
    refine ⟨0, mh, pl, (fun _ => 0), (fun _ => 0), _, _, _, _, _, _, _, _, _, _, _, _, _, _, _, _, _, _, _, _, _, _, _, _, _, _, _, _, _, _, rfl, rfl, W, c, d, ⟨0, (fun _ => 0), (fun _ => 0), rfl, rfl, rfl, by omega, fun j hj => by omega, fun N hN h => absurd rfl h⟩, fun z => absurd z (by decide), CY', Or.inl ⟨rfl, rfl, rfl, rfl, rfl, rfl⟩⟩
  have poolY : ∀ mh : Nat, 1 ≤ mh → mh ≤ 4 → wpX_clamp (fun r_2 => wY_init_97 (fun v => i_Rel 2 (nI mh, r_2, 0, 0, 0, 0, 0, 0, 0, 0, 0, 0, (fun _ => 0), (fun _ => 0), (fun _ => 0), (fun _ => 0), (fun _ => 0), (fun _ => 0), (fun _ => 0), (fun _ => 0), (fun _ => 0), (fun _ => 0), (fun _ => 0), (fun _ => 0), (fun _ => 0), (fun _ => 0)) v) k1 (nI mh) 0 0 0 0 0 0 0 0 0 (fun _ => 0) (fun _ => 0) (fun _ => 0) (fun _ => 0) (fun _ => 0) (fun _ => 0) (fun _ => 0) (fun _ => 0) (fun _ => 0)) k1 1 8 := fun mh a b => by
    refine mx_clamp (fun h => ?_) (fun h h' => ?_) (fun h h' => ?_)
    · exact br_f (Int32.not_le.mpr h) (fin mh 1 a b (by omega) (by omega))
    · exact br_t h (br_f (Int32.not_le.mpr h') (fin mh 8 a b (by omega) (by omega)))
    · obtain ⟨m, c, d, rfl⟩ := pj_c8 (N := 8) (by omega) h h'
      exact br_t h (br_t h' (fin mh m a b c d))
  unfold wpX_init
  refine mx_clamp (fun h => ?_) (fun h h' => ?_) (fun h h' => ?_)
  · refine mx_clampM (poolY 1 (by omega) (by omega)) (fun r hr => br_f (Int32.not_le.mpr h) hr)
  · refine mx_clampM (poolY 4 (by omega) (by omega)) (fun r hr => br_t h (br_f (Int32.not_le.mpr h') hr))
  · obtain ⟨m, c, d, rfl⟩ := pj_c8 (N := 4) (by omega) h h'
    refine mx_clampM (poolY m c d) (fun r hr => br_t h (br_t h' hr))
