/-! the relation, and the questions -/
def pj_Safe (n mh : Nat) (O : Nat → Nat) (G : Nat → Int32) : Prop := ∀ p s, pj_Rc n mh O G p s → pj_fl n mh (O p) p (G p) s = 0
def pj_TV (v h m : Nat) (sta : Nat → Int32) : Prop := h = pj_hg v ∧ ∀ i, i < h → pj_dg v i = 1 → ∃ j, j < m ∧ sta i = nI j
def pj_TL (a b m : Nat) (lo : Nat → Int32) : Prop := (a = 1 → ∃ j, j < m ∧ lo 0 = nI j) ∧ (b = 1 → ∃ j, j < m ∧ lo 1 = nI j)
/-- a running machine stands in a reached situation, and its cells are of its kinds -/
def pj_T (n mh : Nat) (O : Nat → Nat) (G : Nat → Int32) (p h m : Nat) (sta lo : Nat → Int32) : Prop :=
  pj_Safe n mh O G ∧ ∃ s, pj_Rc n mh O G p s ∧ pj_TV (s / 9) h m sta ∧ pj_TL (s / 3 % 3) (s % 3) m lo
def pj_M (n mh : Nat) (O : Nat → Nat) (G : Nat → Int32) (pl : Nat) (st po he re fo : Int32) (sta lo : Nat → Int32) (pc ta ma yf : Int32) (yl : Nat → Int32) : Prop :=
  (st = 0 ∧ po = 0 ∧ he = 0 ∧ re = 0 ∧ lo 0 = 0 ∧ lo 1 = 0) ∨
  (st ≠ 0 ∧ ∃ p h m : Nat, po = nI p ∧ pc = nI p ∧ he = nI h ∧ ta = nI h ∧ re = nI m ∧ ma = nI m ∧ fo = yf &&& 31 ∧ lo 0 = yl 0 ∧ lo 1 = yl 1 ∧ p < 16 ∧ h ≤ 4 ∧ m ≤ pl ∧ (st = 1 → pj_T n mh O G p h m sta lo))
def i_Rel (_ : Nat) (u : SX) (v : SY) : Prop := ∃ (n mh pl : Nat) (O : Nat → Nat) (G : Nat → Int32) (fy fq kh st po he re ch fo : Int32) (fb hb kb ls aq aqs ar ks kl sta lo fie : Nat → Int32) (pc ta ma yf : Int32) (rc fr cm ds yl : Nat → Int32),
  u = (nI mh, nI pl, nI n, fy, fq, kh, st, po, he, re, ch, fo, pj_nF O, G, fb, hb, kb, ls, aq, aqs, ar, ks, kl, sta, lo, fie) ∧ v = (nI mh, nI pl, nI n, st, pc, ta, ma, yf, ch, pj_nF O, G, rc, fr, cm, ds, sta, yl, fie) ∧ pj_PG n mh O G ∧ 1 ≤ pl ∧ pl ≤ 8 ∧ pj_SQ fq aq aqs ar ∧ (0 < n → pj_CX n mh O G fy fb hb kb ls) ∧ pj_CY n mh O G rc ds ∧ pj_M n mh O G pl st po he re fo sta lo pc ta ma yf yl
theorem i_up {k : Nat} {u : SX} {v : SY} (h : i_Rel k u v) : i_Rel (k + 4) u v := h
theorem i_vc_length {k : Nat} {u : SX} {v : SY} (I : i_Rel k u v) (hk : k + 4 ≤ 2050) : wpX_length (fun r => wpY_length (fun r' => r' = r ∧ i_Rel (k + 4) u v) v) u := by
  have I' := i_up I
  obtain ⟨n, mh, pl, O, G, fy, fq, kh, st, po, he, re, ch, fo, fb, hb, kb, ls, aq, aqs, ar, ks, kl, sta, lo, fie, pc, ta, ma, yf, rc, fr, cm, ds, yl, rfl, rfl, W, p1, p8, S, CX, CY, M⟩ := I
  exact ⟨rfl, I'⟩
theorem i_vc_status {k : Nat} {u : SX} {v : SY} (I : i_Rel k u v) (hk : k + 4 ≤ 2050) : wpX_status (fun r => wpY_status (fun r' => r' = r ∧ i_Rel (k + 4) u v) v) u := by
  have I' := i_up I
  obtain ⟨n, mh, pl, O, G, fy, fq, kh, st, po, he, re, ch, fo, fb, hb, kb, ls, aq, aqs, ar, ks, kl, sta, lo, fie, pc, ta, ma, yf, rc, fr, cm, ds, yl, rfl, rfl, W, p1, p8, S, CX, CY, M⟩ := I
  exact ⟨rfl, I'⟩
theorem i_vc_position {k : Nat} {u : SX} {v : SY} (I : i_Rel k u v) (hk : k + 4 ≤ 2050) : wpX_position (fun r => wpY_position (fun r' => r' = r ∧ i_Rel (k + 4) u v) v) u := by
  have I' := i_up I
  obtain ⟨n, mh, pl, O, G, fy, fq, kh, st, po, he, re, ch, fo, fb, hb, kb, ls, aq, aqs, ar, ks, kl, sta, lo, fie, pc, ta, ma, yf, rc, fr, cm, ds, yl, rfl, rfl, W, p1, p8, S, CX, CY, M⟩ := I
  rcases M with ⟨e0, e1, _⟩ | ⟨h0, p, h, m, e1, e2, _⟩
  · exact br_t e0 ⟨e1.symm, I'⟩
  · exact br_f h0 ⟨e2.trans e1.symm, I'⟩
theorem i_vc_height {k : Nat} {u : SX} {v : SY} (I : i_Rel k u v) (hk : k + 4 ≤ 2050) : wpX_height (fun r => wpY_height (fun r' => r' = r ∧ i_Rel (k + 4) u v) v) u := by
  have I' := i_up I
  obtain ⟨n, mh, pl, O, G, fy, fq, kh, st, po, he, re, ch, fo, fb, hb, kb, ls, aq, aqs, ar, ks, kl, sta, lo, fie, pc, ta, ma, yf, rc, fr, cm, ds, yl, rfl, rfl, W, p1, p8, S, CX, CY, M⟩ := I
  rcases M with ⟨e0, _, e1, _⟩ | ⟨h0, p, h, m, _, _, e1, e2, _⟩
  · exact br_t e0 ⟨e1.symm, I'⟩
  · exact br_f h0 ⟨e2.trans e1.symm, I'⟩
theorem i_vc_records {k : Nat} {u : SX} {v : SY} (I : i_Rel k u v) (hk : k + 4 ≤ 2050) : wpX_records (fun r => wpY_records (fun r' => r' = r ∧ i_Rel (k + 4) u v) v) u := by
  have I' := i_up I
  obtain ⟨n, mh, pl, O, G, fy, fq, kh, st, po, he, re, ch, fo, fb, hb, kb, ls, aq, aqs, ar, ks, kl, sta, lo, fie, pc, ta, ma, yf, rc, fr, cm, ds, yl, rfl, rfl, W, p1, p8, S, CX, CY, M⟩ := I
  rcases M with ⟨e0, _, _, e1, _⟩ | ⟨h0, p, h, m, _, _, _, _, e1, e2, _⟩
  · exact br_t e0 ⟨e1.symm, I'⟩
  · exact br_f h0 ⟨e2.trans e1.symm, I'⟩
theorem i_vc_distance {k : Nat} {u : SX} {v : SY} (I : i_Rel k u v) (hk : k + 4 ≤ 2050) (v1 : Int32) : wpX_distance (fun r => wpY_distance (fun r' => r' = r ∧ i_Rel (k + 4) u v) v v1) u v1 := by
  have I' := i_up I
  obtain ⟨n, mh, pl, O, G, fy, fq, kh, st, po, he, re, ch, fo, fb, hb, kb, ls, aq, aqs, ar, ks, kl, sta, lo, fie, pc, ta, ma, yf, rc, fr, cm, ds, yl, rfl, rfl, W, p1, p8, S, CX, CY, M⟩ := I
  have hn := W.1
  unfold wpX_distance
  refine mx_isPos hn rfl (fun h => br_t rfl ?_) (fun j hj ej => br_f (by decide) ?_)
  · by_cases h0 : v1 < 0
    · exact br_t h0 ⟨rfl, I'⟩
    · exact br_f h0 (br_t (h.elim (fun z => absurd z h0) id) ⟨rfl, I'⟩)
  · subst ej
    have hin := vp_in_nI (n := j) (N := 16) (by omega) (by decide)
    refine ⟨hin, br_f (nI_pos (by omega)) (br_f (nI_ge hj (by omega)) ⟨hin, ?_, I'⟩)⟩
    rw [nI_clamp (by omega)]
    exact pj_DSu (CY.2 j (by omega)) ((CX (by omega)).2.2.2.1 j (by omega))
theorem i_vc_faults {k : Nat} {u : SX} {v : SY} (I : i_Rel k u v) (hk : k + 4 ≤ 2050) (v1 : Int32) : wpX_faults (fun r => wpY_faults (fun r' => r' = r ∧ i_Rel (k + 4) u v) v v1) u v1 := by
  have I' := i_up I
  obtain ⟨n, mh, pl, O, G, fy, fq, kh, st, po, he, re, ch, fo, fb, hb, kb, ls, aq, aqs, ar, ks, kl, sta, lo, fie, pc, ta, ma, yf, rc, fr, cm, ds, yl, rfl, rfl, W, p1, p8, S, CX, CY, M⟩ := I
  have hn := W.1
  unfold wpX_faults
  refine mx_isPos hn rfl (fun h => br_t rfl ?_) (fun j hj ej => br_f (by decide) ?_)
  · by_cases h0 : v1 < 0
    · exact br_t h0 ⟨rfl, I'⟩
    · exact br_f h0 (br_t (h.elim (fun z => absurd z h0) id) ⟨rfl, I'⟩)
  · subst ej
    refine ⟨vp_in_nI (by omega) (by decide), my_faults W hj rfl rfl rfl rfl CY (fun r hr => ⟨?_, I'⟩)⟩
    rw [nI_clamp (by omega)]
    apply b_ext
    intro b hb
    rw [Bool.eq_iff_iff, hr b hb]
    exact ((CX (by omega)).1 j (by omega) b hb).symm
theorem i_vc_heights {k : Nat} {u : SX} {v : SY} (I : i_Rel k u v) (hk : k + 4 ≤ 2050) (v1 : Int32) : wpX_heights (fun r => wpY_heights (fun r' => r' = r ∧ i_Rel (k + 4) u v) v v1) u v1 := by
  have I' := i_up I
  obtain ⟨n, mh, pl, O, G, fy, fq, kh, st, po, he, re, ch, fo, fb, hb, kb, ls, aq, aqs, ar, ks, kl, sta, lo, fie, pc, ta, ma, yf, rc, fr, cm, ds, yl, rfl, rfl, W, p1, p8, S, CX, CY, M⟩ := I
  have hn := W.1
  unfold wpX_heights
  refine mx_isPos hn rfl (fun h => br_t rfl ?_) (fun j hj ej => br_f (by decide) ?_)
  · by_cases h0 : v1 < 0
    · exact br_t h0 ⟨rfl, I'⟩
    · exact br_f h0 (br_t (h.elim (fun z => absurd z h0) id) ⟨rfl, I'⟩)
  · subst ej
    refine ⟨vp_in_nI (by omega) (by decide), my_heights W hj rfl CY (fun r hr => ⟨?_, I'⟩)⟩
    rw [nI_clamp (by omega)]
    apply b_ext
    intro b hb
    rw [Bool.eq_iff_iff, hr b hb]
    exact ((CX (by omega)).2.1 j (by omega) b hb).symm
theorem i_vc_verdict {k : Nat} {u : SX} {v : SY} (I : i_Rel k u v) (hk : k + 4 ≤ 2050) : wpX_verdict (fun r => wpY_verdict (fun r' => r' = r ∧ i_Rel (k + 4) u v) v) u := by
  have I' := i_up I
  obtain ⟨n, mh, pl, O, G, fy, fq, kh, st, po, he, re, ch, fo, fb, hb, kb, ls, aq, aqs, ar, ks, kl, sta, lo, fie, pc, ta, ma, yf, rc, fr, cm, ds, yl, rfl, rfl, W, p1, p8, S, CX, CY, M⟩ := I
  have hn := W.1
  refine pk_eq n 0 (fun h => ?_) (fun h => ?_)
  · exact my_verdict W rfl rfl rfl rfl CY (fun _ => ⟨rfl, I'⟩) (fun z => by omega) (fun z => by omega)
  · have cf := (CX (by omega)).2.2.2.2
    refine br_c (fun c => ?_) (fun c => ?_)
    · exact my_verdict W rfl rfl rfl rfl CY (fun z => by omega) (fun _ _ => ⟨rfl, I'⟩) (fun _ z => absurd (cf.mp c) z)
    · exact my_verdict W rfl rfl rfl rfl CY (fun z => by omega) (fun _ z => absurd (cf.mpr z) c) (fun _ _ => ⟨rfl, I'⟩)
