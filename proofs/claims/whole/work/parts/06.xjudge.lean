/-! the component's judge -/
def pj_XI (n mh : Nat) (O : Nat → Nat) (G : Nat → Int32) (x m : Nat) (Q T : Nat → Nat) (R : Nat → Int32) (fy : Int32) (fb hb kb ls : Nat → Int32) : Prop :=
  pj_Q n mh O G m Q T R ∧ x ≤ m ∧ (x < m → ∀ j, j < m → T j ≤ T x + 1) ∧
  (∀ i, i < x → ∀ q t, pj_St n mh O G (pj_yp (Q i)) (pj_ys (Q i)) q t → ∃ j, j < m ∧ Q j = pj_xn q t ∧ T j ≤ T i + 1) ∧
  (∃ j, j < m ∧ Q j = pj_xn 0 8 ∧ T j = 0) ∧
  (∀ p, p < 16 → ∀ b, b < 32 → (bt (fb p) b = true ↔ ∃ i, i < x ∧ pj_yp (Q i) = p ∧ bt (nI (pj_fl n mh (O p) p (G p) (pj_ys (Q i)))) b = true)) ∧
  (∀ p, p < 16 → ∀ b, b < 32 → (bt (hb p) b = true ↔ ∃ i, i < x ∧ pj_yp (Q i) = p ∧ pj_hg (pj_ys (Q i) / 9) = b)) ∧
  (∀ p h pl, p < 16 → h < 5 → pl < 6 → ∀ b, b < 32 → (bt (kb ((p * 5 + h) * 6 + pl)) b = true ↔ ∃ i, i < x ∧ pj_yp (Q i) = p ∧ pj_hg (pj_ys (Q i) / 9) = h ∧ pj_Kd (pj_ys (Q i)) h pl b)) ∧
  (∀ p, p < 16 → (ls p = -1 ∧ ∀ i, i < x → pj_yp (Q i) ≠ p) ∨ ∃ i, i < x ∧ pj_yp (Q i) = p ∧ ls p = nI (T i) ∧ ∀ j, j < x → pj_yp (Q j) = p → T i ≤ T j) ∧
  (fy = 0 ↔ ∀ i, i < x → pj_fl n mh (O (pj_yp (Q i))) (pj_yp (Q i)) (G (pj_yp (Q i))) (pj_ys (Q i)) = 0)
theorem pj_exs {x : Nat} {A A' : Nat → Prop} (h : ∀ i, i < x + 1 → (A' i ↔ A i)) : (∃ i, i < x + 1 ∧ A' i) ↔ (∃ i, i < x ∧ A i) ∨ A x := by
  constructor
  · rintro ⟨i, hi, ha⟩
    rcases Nat.lt_or_ge i x with h1 | h1
    · exact Or.inl ⟨i, h1, (h i hi).mp ha⟩
    · have e : i = x := by omega
      subst e
      exact Or.inr ((h i hi).mp ha)
  · rintro (⟨i, hi, ha⟩ | ha)
    · exact ⟨i, by omega, (h i (by omega)).mpr ha⟩
    · exact ⟨x, by omega, (h x (by omega)).mpr ha⟩
theorem pj_orB {f : Nat → Int32} {x0 x b : Nat} {y : Int32} : bt (pj_or f x0 y x) b = true ↔ bt (f x) b = true ∨ (x0 = x ∧ bt y b = true) := by
  unfold pj_or
  by_cases e : x = x0
  · subst e
    rw [pk_us, b_or, Bool.or_eq_true]
    exact ⟨fun h => h.elim Or.inl (fun h => Or.inr ⟨rfl, h⟩), fun h => h.elim Or.inl (fun h => Or.inr h.2)⟩
  · rw [pk_un e]
    exact ⟨Or.inl, fun h => h.elim id (fun h => absurd h.1.symm e)⟩
theorem pj_bt2 : ∀ h, h < 5 → ∀ b, b < 32 → bt (nI (2 ^ h)) b = decide (h = b) := by decide +kernel
theorem pj_XIs {n mh : Nat} {O : Nat → Nat} {G : Nat → Int32} {x m m' : Nat} {Q T Q' T' : Nat → Nat} {R R' : Nat → Int32} {fy fy' : Int32} {fb hb kb ls fb' kb' ls' : Nat → Int32} (I : pj_XI n mh O G x m Q T R fy fb hb kb ls) (hx : x < m)
    (hE : pj_Ef (pj_yp (Q x)) (pj_fl n mh (O (pj_yp (Q x))) (pj_yp (Q x)) (G (pj_yp (Q x))) (pj_ys (Q x))) fy fb fy' fb')
    (hK : ∀ z b, b < 32 → (bt (kb' z) b = true ↔ bt (kb z) b = true ∨ ∃ pl, pl < 6 ∧ z = (pj_yp (Q x) * 5 + pj_hg (pj_ys (Q x) / 9)) * 6 + pl ∧ pj_Kd (pj_ys (Q x)) (pj_hg (pj_ys (Q x) / 9)) pl b))
    (l1 : 0 ≤ ls (pj_yp (Q x)) → ls' = ls) (l2 : ¬ 0 ≤ ls (pj_yp (Q x)) → ls' = upd ls (pj_yp (Q x)) (nI (T x)))
    (hM : ∀ q s', pj_St n mh O G (pj_yp (Q x)) (pj_ys (Q x)) q s' → ∃ i, i < m' ∧ Q' i = pj_xn q s' ∧ T' i ≤ T x + 1) (hQ' : pj_Q n mh O G m' Q' T' R') (hEx : pj_E m Q T m' Q' T') (hbd : ∀ i, i < m' → T' i ≤ T x + 1) :
    pj_XI n mh O G (x + 1) m' Q' T' R' fy' fb' (pj_or hb (pj_yp (Q x)) (nI (2 ^ pj_hg (pj_ys (Q x) / 9)))) kb' ls' := by
  obtain ⟨i1, i2, i3, i4, i5, i6, i7, i8, i9, i10⟩ := I
  have eQ : ∀ i, i < x + 1 → Q' i = Q i := fun i hi => (hEx.2 i (by omega)).1
  have eT : ∀ i, i < x + 1 → T' i = T i := fun i hi => (hEx.2 i (by omega)).2
  have hm := hEx.1
  refine ⟨hQ', by omega, fun h j hj => ?_, fun i hi q t hst => ?_, ?_, fun p hp b hb32 => ?_, fun p hp b hb32 => ?_, fun p h pl hp hh hpl b hb32 => ?_, fun p hp => ?_, ?_⟩
  · have h1 := hbd j hj
    have h2 := hQ'.2.2.2 x (x + 1) (by omega) h
    rw [eT x (by omega)] at h2
    omega
  · rw [eQ i hi] at hst
    rw [eT i hi]
    rcases Nat.lt_or_ge i x with h1 | h1
    · obtain ⟨j, hj, e1, e2⟩ := i4 i h1 q t hst
      exact ⟨j, by omega, (hEx.2 j hj).1.trans e1, by rw [(hEx.2 j hj).2]; exact e2⟩
    · have e : i = x := by omega
      subst e
      exact hM q t hst
  · obtain ⟨j, hj, e1, e2⟩ := i5
    exact ⟨j, by omega, (hEx.2 j hj).1.trans e1, (hEx.2 j hj).2.trans e2⟩
  · rw [hE.1, pj_orB, i6 p hp b hb32]
    refine Iff.trans ?_ (pj_exs (A := fun i => pj_yp (Q i) = p ∧ bt (nI (pj_fl n mh (O p) p (G p) (pj_ys (Q i)))) b = true) (fun i hi => by rw [eQ i hi])).symm
    exact or_congr Iff.rfl ⟨fun ⟨a, c⟩ => ⟨a, by rw [← a]; exact c⟩, fun ⟨a, c⟩ => ⟨a, by rw [← a] at c; exact c⟩⟩
  · rw [pj_orB, i7 p hp b hb32, pj_bt2 _ (by have := pj_hgle (pj_ys (Q x) / 9); omega) b hb32, decide_eq_true_iff]
    exact (pj_exs (A := fun i => pj_yp (Q i) = p ∧ pj_hg (pj_ys (Q i) / 9) = b) (fun i hi => by rw [eQ i hi])).symm
  · rw [hK _ b hb32, i8 p h pl hp hh hpl b hb32]
    refine Iff.trans ?_ (pj_exs (A := fun i => pj_yp (Q i) = p ∧ pj_hg (pj_ys (Q i) / 9) = h ∧ pj_Kd (pj_ys (Q i)) h pl b) (fun i hi => by rw [eQ i hi])).symm
    have h4 := pj_hgle (pj_ys (Q x) / 9)
    refine or_congr Iff.rfl ⟨?_, ?_⟩
    · rintro ⟨pl', h1, h2, h3⟩
      have e1 : pj_yp (Q x) = p := by omega
      have e2 : pj_hg (pj_ys (Q x) / 9) = h := by omega
      have e3 : pl' = pl := by omega
      subst e3
      rw [e2] at h3
      exact ⟨e1, e2, h3⟩
    · rintro ⟨e1, e2, h3⟩
      exact ⟨pl, hpl, by rw [e1, e2], by rw [e2]; exact h3⟩
  · by_cases c : pj_yp (Q x) = p
    · subst c
      rcases i9 _ hp with ⟨a1, a2⟩ | ⟨i, a1, a2, a3, a4⟩
      · have hn0 : ¬ (0 : Int32) ≤ ls (pj_yp (Q x)) := by rw [a1]; decide
        rw [l2 hn0]
        refine Or.inr ⟨x, by omega, by rw [eQ x (by omega)], by rw [pk_us, eT x (by omega)], fun j hj ej => ?_⟩
        rw [eQ j hj] at ej
        rcases Nat.lt_or_ge j x with h1 | h1
        · exact absurd ej (a2 j h1)
        · have e : j = x := by omega
          subst e
          exact Nat.le_refl _
      · have hTi : T i < 2 ^ 31 := by have := (i1.1 i (by omega)).2.1; have := pj_Qm i1; omega
        have hn0 : (0 : Int32) ≤ ls (pj_yp (Q x)) := by rw [a3]; exact nI_pos' hTi
        rw [l1 hn0]
        refine Or.inr ⟨i, by omega, by rw [eQ i (by omega)]; exact a2, by rw [eT i (by omega)]; exact a3, fun j hj ej => ?_⟩
        rw [eQ j hj] at ej
        rw [eT i (by omega), eT j hj]
        rcases Nat.lt_or_ge j x with h1 | h1
        · exact a4 j h1 ej
        · exact i1.2.2.2 i j (by omega) (by omega)
    · have el : ls' p = ls p := by
        by_cases h0 : 0 ≤ ls (pj_yp (Q x))
        · rw [l1 h0]
        · rw [l2 h0, pk_un (fun z => c z.symm)]
      rw [el]
      rcases i9 p hp with ⟨a1, a2⟩ | ⟨i, a1, a2, a3, a4⟩
      · refine Or.inl ⟨a1, fun i hi => ?_⟩
        rw [eQ i hi]
        rcases Nat.lt_or_ge i x with h1 | h1
        · exact a2 i h1
        · have e : i = x := by omega
          subst e
          exact c
      · refine Or.inr ⟨i, by omega, by rw [eQ i (by omega)]; exact a2, by rw [eT i (by omega)]; exact a3, fun j hj ej => ?_⟩
        rw [eQ j hj] at ej
        rw [eT i (by omega), eT j hj]
        rcases Nat.lt_or_ge j x with h1 | h1
        · exact a4 j h1 ej
        · have e : j = x := by omega
          subst e
          exact absurd ej c
  · constructor
    · intro h i hi
      rw [eQ i hi]
      have f0 : pj_fl n mh (O (pj_yp (Q x))) (pj_yp (Q x)) (G (pj_yp (Q x))) (pj_ys (Q x)) = 0 := by
        refine Classical.byContradiction (fun z => ?_)
        rw [hE.2.2 z] at h
        exact absurd h (by decide)
      rcases Nat.lt_or_ge i x with h1 | h1
      · rw [hE.2.1 f0] at h
        exact i10.mp h i h1
      · have e : i = x := by omega
        subst e
        exact f0
    · intro h
      have hx0 := h x (by omega)
      rw [eQ x (by omega)] at hx0
      rw [hE.2.1 hx0]
      refine i10.mpr (fun i hi => ?_)
      have := h i (by omega)
      rw [eQ i (by omega)] at this
      exact this
/-- what the component's checker has found of a program -/
def pj_CX (n mh : Nat) (O : Nat → Nat) (G : Nat → Int32) (fy : Int32) (fb hb kb ls : Nat → Int32) : Prop :=
  (∀ p, p < 16 → ∀ b, b < 32 → (bt (fb p) b = true ↔ ∃ s, pj_Rc n mh O G p s ∧ bt (nI (pj_fl n mh (O p) p (G p) s)) b = true)) ∧
  (∀ p, p < 16 → ∀ b, b < 32 → (bt (hb p) b = true ↔ ∃ s, pj_Rc n mh O G p s ∧ pj_hg (s / 9) = b)) ∧
  (∀ p h pl, p < 16 → h < 5 → pl < 6 → ∀ b, b < 32 → (bt (kb ((p * 5 + h) * 6 + pl)) b = true ↔ ∃ s, pj_Rc n mh O G p s ∧ pj_hg (s / 9) = h ∧ pj_Kd s h pl b)) ∧
  (∀ p, p < 16 → pj_DS n mh O G p (ls p)) ∧
  (fy = 0 ↔ ∀ p s, pj_Rc n mh O G p s → pj_fl n mh (O p) p (G p) s = 0)
theorem pj_XIe {n mh : Nat} {O : Nat → Nat} {G : Nat → Int32} {m : Nat} {Q T : Nat → Nat} {R : Nat → Int32} {fy : Int32} {fb hb kb ls : Nat → Int32} (W : pj_PG n mh O G) (I : pj_XI n mh O G m m Q T R fy fb hb kb ls) : pj_CX n mh O G fy fb hb kb ls := by
  obtain ⟨i1, i2, i3, i4, i5, i6, i7, i8, i9, i10⟩ := I
  have fw : ∀ k p s, pj_D n mh O G k p s → ∃ j, j < m ∧ Q j = pj_xn p s ∧ T j ≤ k := by
    intro k
    induction k with
    | zero =>
      intro p s h
      obtain ⟨_, rfl, rfl⟩ := h
      obtain ⟨j, hj, e1, e2⟩ := i5
      exact ⟨j, hj, e1, by omega⟩
    | succ k ih =>
      intro p s h
      obtain ⟨p', s', h1, h2⟩ := h
      obtain ⟨j, hj, e1, e2⟩ := ih p' s' h1
      have hs' := (pj_Dlt W k p' s' h1).2
      have h3 := i4 j hj p s (by rw [e1, pj_ypx hs', pj_ysx hs']; exact h2)
      obtain ⟨j', hj', e3, e4⟩ := h3
      exact ⟨j', hj', e3, by omega⟩
  have bw : ∀ j, j < m → pj_Rc n mh O G (pj_yp (Q j)) (pj_ys (Q j)) := fun j hj => ⟨_, (i1.1 j hj).2.2.1⟩
  have fwR : ∀ p s, pj_Rc n mh O G p s → ∃ j, j < m ∧ pj_yp (Q j) = p ∧ pj_ys (Q j) = s := fun p s ⟨k, hk⟩ => by
    obtain ⟨j, hj, e1, _⟩ := fw k p s hk
    have hs' := (pj_Dlt W k p s hk).2
    exact ⟨j, hj, by rw [e1, pj_ypx hs'], by rw [e1, pj_ysx hs']⟩
  refine ⟨fun p hp b hb => ?_, fun p hp b hb => ?_, fun p h pl hp hh hpl b hb => ?_, fun p hp => ?_, ?_⟩
  · rw [i6 p hp b hb]
    constructor
    · rintro ⟨i, hi, rfl, h⟩
      exact ⟨_, bw i hi, h⟩
    · rintro ⟨s, hs, h⟩
      obtain ⟨j, hj, e1, e2⟩ := fwR p s hs
      exact ⟨j, hj, e1, by rw [e2]; exact h⟩
  · rw [i7 p hp b hb]
    constructor
    · rintro ⟨i, hi, rfl, h⟩
      exact ⟨_, bw i hi, h⟩
    · rintro ⟨s, hs, h⟩
      obtain ⟨j, hj, e1, e2⟩ := fwR p s hs
      exact ⟨j, hj, e1, by rw [e2]; exact h⟩
  · rw [i8 p h pl hp hh hpl b hb]
    constructor
    · rintro ⟨i, hi, rfl, h1, h2⟩
      exact ⟨_, bw i hi, h1, h2⟩
    · rintro ⟨s, hs, h1, h2⟩
      obtain ⟨j, hj, e1, e2⟩ := fwR p s hs
      exact ⟨j, hj, e1, by rw [e2]; exact h1, by rw [e2]; exact h2⟩
  · rcases i9 p hp with ⟨a1, a2⟩ | ⟨i, a1, a2, a3, a4⟩
    · refine Or.inl ⟨a1, fun k s hk => ?_⟩
      obtain ⟨j, hj, e1, _⟩ := fwR p s ⟨k, hk⟩
      exact a2 j hj e1
    · refine Or.inr ⟨T i, a3, ⟨pj_ys (Q i), by have := (i1.1 i a1).2.2.1; rw [a2] at this; exact this⟩, fun k' s hk' => ?_⟩
      obtain ⟨j, hj, e1, e2⟩ := fw k' p s hk'
      have hs' := (pj_Dlt W k' p s hk').2
      have := a4 j hj (by rw [e1, pj_ypx hs'])
      omega
  · rw [i10]
    constructor
    · intro h p s hs
      obtain ⟨j, hj, e1, e2⟩ := fwR p s hs
      have := h j hj
      rw [e1, e2] at this
      exact this
    · intro h i hi
      exact h _ _ (bw i hi)
def pj_SQ (fq : Int32) (aq aqs ar : Nat → Int32) : Prop := ∃ m Q T, fq = nI m ∧ aq = pj_nF Q ∧ aqs = pj_nF T ∧ m ≤ 17424 ∧ (∀ j, j < m → Q j < 17424) ∧ (∀ N, N < 17424 → ar N ≠ 0 → ∃ j, j < m ∧ Q j = N)
section
variable {f_maxHeight f_pool f_length f_faulty f_queued f_kindHeight f_status f_position f_height f_records f_choices f_forks : Int32} {a_ops a_args a_faultBits a_heightBits a_kindBits a_leastSteps a_queue a_queueSteps a_reached a_kindStack a_kindLocals a_stack a_locals a_fields : Nat → Int32} {n mh : Nat} {O : Nat → Nat} {G : Nat → Int32}
theorem mx_fg75 {post : SX → Prop} (H : ∀ kb, (∀ x, x < 480 → kb x = 0) → post (f_maxHeight, f_pool, f_length, f_faulty, f_queued, f_kindHeight, f_status, f_position, f_height, f_records, f_choices, f_forks, a_ops, a_args, a_faultBits, a_heightBits, kb, a_leastSteps, a_queue, a_queueSteps, a_reached, a_kindStack, a_kindLocals, a_stack, a_locals, a_fields)) :
    ∀ d i kb, i + d = 480 → (∀ x, x < i → kb x = 0) → wX_forgetJudgement_75 post f_maxHeight f_pool f_length f_faulty f_queued f_kindHeight f_status f_position f_height f_records f_choices f_forks (d + 1) (nI i) a_ops a_args a_faultBits a_heightBits (kb) a_leastSteps a_queue a_queueSteps a_reached a_kindStack a_kindLocals a_stack a_locals a_fields := by
  intro d
  induction d with
  | zero =>
    intro i kb hi hk
    have e : i = 480 := by omega
    subst e
    exact br_t (by decide) (H kb hk)
  | succ d ih =>
    intro i kb hi hk
    refine br_f (nI_ge (b := 480) (by omega) (by decide)) ⟨vp_in_nI (by omega) (by decide), nm_e (nm_r (nI_1 i) ?_)⟩
    rw [nI_clamp (by omega)]
    refine ih (i + 1) _ (by omega) (fun x hx => ?_)
    by_cases e : x = i
    · subst e; rw [pk_us]
    · rw [pk_un e]; exact hk x (by omega)
theorem mx_fg40 {post : SX → Prop} (H : ∀ fb hb ls kb, (∀ p, p < 16 → fb p = 0 ∧ hb p = 0 ∧ ls p = -1) → (∀ x, x < 480 → kb x = 0) → post (f_maxHeight, f_pool, f_length, f_faulty, f_queued, f_kindHeight, f_status, f_position, f_height, f_records, f_choices, f_forks, a_ops, a_args, fb, hb, kb, ls, a_queue, a_queueSteps, a_reached, a_kindStack, a_kindLocals, a_stack, a_locals, a_fields)) :
    ∀ d i fb hb ls, i + d = 16 → (∀ p, p < i → fb p = 0 ∧ hb p = 0 ∧ ls p = -1) → wX_forgetJudgement_40 post f_maxHeight f_pool f_length f_faulty f_queued f_kindHeight f_status f_position f_height f_records f_choices f_forks (d + 1) (nI i) a_ops a_args (fb) (hb) a_kindBits (ls) a_queue a_queueSteps a_reached a_kindStack a_kindLocals a_stack a_locals a_fields := by
  intro d
  induction d with
  | zero =>
    intro i fb hb ls hi hk
    have e : i = 16 := by omega
    subst e
    exact br_t (by decide) ⟨481, mx_fg75 (fun kb h => H fb hb ls kb hk h) 480 0 _ (by omega) (fun x hx => by omega)⟩
  | succ d ih =>
    intro i fb hb ls hi hk
    have hin := vp_in_nI (n := i) (N := 16) (by omega) (by decide)
    refine br_f (nI_ge (b := 16) (by omega) (by decide)) ⟨hin, nm_e ⟨hin, nm_e ⟨hin, nm_e (nm_r (nI_1 i) ?_)⟩⟩⟩
    rw [nI_clamp (by omega)]
    refine ih (i + 1) _ _ _ (by omega) (fun x hx => ?_)
    by_cases e : x = i
    · subst e; rw [pk_us, pk_us, pk_us]; exact ⟨rfl, rfl, rfl⟩
    · rw [pk_un e, pk_un e, pk_un e]; exact hk x (by omega)
theorem mx_fg2 {post : SX → Prop} {m : Nat} {Q : Nat → Nat} (hm : f_queued = nI m) (hm2 : m ≤ 17424) (hQ : a_queue = pj_nF Q) (hq : ∀ j, j < m → Q j < 17424)
    (H : ∀ fb hb ls kb R, (∀ p, p < 16 → fb p = 0 ∧ hb p = 0 ∧ ls p = -1) → (∀ x, x < 480 → kb x = 0) → (∀ N, N < 17424 → R N = 0) → post (f_maxHeight, f_pool, f_length, 0, 0, f_kindHeight, f_status, f_position, f_height, f_records, f_choices, f_forks, a_ops, a_args, fb, hb, kb, ls, a_queue, a_queueSteps, R, a_kindStack, a_kindLocals, a_stack, a_locals, a_fields)) :
    ∀ d i R, i + d = m → (∀ N, N < 17424 → R N ≠ 0 → ∃ j, i ≤ j ∧ j < m ∧ Q j = N) → wX_forgetJudgement_2 post f_maxHeight f_pool f_length f_faulty f_queued f_kindHeight f_status f_position f_height f_records f_choices f_forks (d + 1) (nI i) a_ops a_args a_faultBits a_heightBits a_kindBits a_leastSteps a_queue a_queueSteps (R) a_kindStack a_kindLocals a_stack a_locals a_fields := by
  subst hm hQ
  intro d
  induction d with
  | zero =>
    intro i R hi hR
    have hR0 : ∀ N, N < 17424 → R N = 0 := fun N hN => Classical.byContradiction (fun z => by
      obtain ⟨j, h1, h2, _⟩ := hR N hN z
      omega)
    refine br_t (nI_le (by omega) (by omega)) ⟨17, mx_fg40 (fun fb hb ls kb h1 h2 => H fb hb ls kb R h1 h2 hR0) 16 0 _ _ _ (by omega) (fun x hx => by omega)⟩
  | succ d ih =>
    intro i R hi hR
    have hQi := hq i (by omega)
    refine br_f (nI_ge (by omega) (by omega)) ⟨vp_in_nI (by omega) (by decide), ?_⟩
    have e0 : pj_nF Q (nI i).toNatClampNeg = nI (Q i) := by rw [nI_clamp (by omega)]; rfl
    rw [e0]
    refine ⟨vp_in_nI hQi (by decide), nm_e (nm_r (nI_1 i) ?_)⟩
    rw [nI_clamp (by omega)]
    refine ih (i + 1) _ (by omega) (fun N hN h => ?_)
    by_cases e : N = Q i
    · subst e
      rw [pk_us] at h
      exact absurd pj_nb0 h
    · rw [pk_un e] at h
      obtain ⟨j, h1, h2, h3⟩ := hR N hN h
      refine ⟨j, ?_, h2, h3⟩
      by_cases ej : j = i
      · subst ej
        exact absurd h3.symm e
      · omega
theorem mx_forget {post : SX → Prop} (S : pj_SQ f_queued a_queue a_queueSteps a_reached)
    (H : ∀ fb hb ls kb R, (∀ p, p < 16 → fb p = 0 ∧ hb p = 0 ∧ ls p = -1) → (∀ x, x < 480 → kb x = 0) → (∀ N, N < 17424 → R N = 0) → post (f_maxHeight, f_pool, f_length, 0, 0, f_kindHeight, f_status, f_position, f_height, f_records, f_choices, f_forks, a_ops, a_args, fb, hb, kb, ls, a_queue, a_queueSteps, R, a_kindStack, a_kindLocals, a_stack, a_locals, a_fields)) : wpX_forgetJudgement post (f_maxHeight, f_pool, f_length, f_faulty, f_queued, f_kindHeight, f_status, f_position, f_height, f_records, f_choices, f_forks, a_ops, a_args, a_faultBits, a_heightBits, a_kindBits, a_leastSteps, a_queue, a_queueSteps, a_reached, a_kindStack, a_kindLocals, a_stack, a_locals, a_fields) := by
  obtain ⟨m, Q, T, hm, hQ, _, hm2, hq, hR⟩ := S
  exact ⟨m + 1, mx_fg2 hm hm2 hQ hq H m 0 a_reached (by omega) (fun N hN h => by
    obtain ⟨j, h1, h2⟩ := hR N hN h
    exact ⟨j, by omega, h1, h2⟩)⟩
theorem mx_judgeL {post : SX → Prop} (W : pj_PG n mh O G) (hmh : f_maxHeight = nI mh) (hl : f_length = nI n) (hO : a_ops = pj_nF O) (hG : a_args = G)
    (H : ∀ fy m kh fb hb kb ls Q T R ks kl, pj_XI n mh O G m m Q T R fy fb hb kb ls → post (f_maxHeight, f_pool, f_length, fy, nI m, kh, f_status, f_position, f_height, f_records, f_choices, f_forks, a_ops, a_args, fb, hb, kb, ls, pj_nF Q, pj_nF T, R, ks, kl, a_stack, a_locals, a_fields)) :
    ∀ d x fy m kh fb hb kb ls Q T R ks kl, x + d = 17424 → pj_XI n mh O G x m Q T R fy fb hb kb ls →
      wX_judge_32 post (d + 1) (nI x) f_maxHeight f_pool f_length (fy) (nI m) (kh) f_status f_position f_height f_records f_choices f_forks a_ops a_args (fb) (hb) (kb) (ls) (pj_nF Q) (pj_nF T) (R) (ks) (kl) a_stack a_locals a_fields := by
  intro d
  induction d with
  | zero =>
    intro x fy m kh fb hb kb ls Q T R ks kl hx I
    have hm := pj_Qm I.1
    have h2 := I.2.1
    have e : x = m := by omega
    subst e
    exact br_t (nI_le (Nat.le_refl _) (by omega)) (H _ _ _ _ _ _ _ _ _ _ _ _ I)
  | succ d ih =>
    intro x fy m kh fb hb kb ls Q T R ks kl hx I
    have hm := pj_Qm I.1
    have h2 := I.2.1
    by_cases hxm : x = m
    · subst hxm
      exact br_t (nI_le (Nat.le_refl _) (by omega)) (H _ _ _ _ _ _ _ _ _ _ _ _ I)
    · have hlt : x < m := by omega
      obtain ⟨q1, q2, q3, q4⟩ := I.1.1 x hlt
      have hyp := (pj_Dlt W _ _ _ q3).1
      have hys := (pj_Dlt W _ _ _ q3).2
      have hn := W.1
      have hin := vp_in_nI (n := x) (N := 17424) (by omega) (by decide)
      refine br_f (nI_ge hlt (by omega)) (br_f (nI_ge (b := 17424) (by omega) (by decide)) ⟨hin, ?_⟩)
      have e0 : pj_nF Q (nI x).toNatClampNeg = nI (pj_xn (pj_yp (Q x)) (pj_ys (Q x))) := by rw [nI_clamp (by omega), pj_xny]; rfl
      have e1 : pj_nF T (nI x).toNatClampNeg = nI (T x) := by rw [nI_clamp (by omega)]; rfl
      rw [e0]
      refine mx_take (by omega) hys (fun kh ks kl P => ⟨hin, ?_⟩)
      rw [e1]
      refine mx_note (by omega) P hys (fun kb' ls' hK l1 l2 => ⟨hin, ?_⟩)
      rw [e1, nI_1 (T x)]
      refine mx_follow W hyp hmh hl rfl rfl rfl hO hG P hys q3 I.1 (I.2.2.1 hlt) (by omega) (fun kh ks kl fy' fb' m' Q' T' R' hE hM hQ' hEx hb' => nm_r (nI_1 x) ?_)
      exact ih (x + 1) fy' m' kh fb' _ kb' ls' Q' T' R' ks kl (by omega) (pj_XIs I hlt hE hK l1 l2 hM hQ' hEx hb')
theorem mx_judge {post : SX → Prop} (W : pj_PG n mh O G) (hn0 : 0 < n) (hmh : f_maxHeight = nI mh) (hl : f_length = nI n) (hO : a_ops = pj_nF O) (hG : a_args = G) (S : pj_SQ f_queued a_queue a_queueSteps a_reached)
    (H : ∀ fy fq kh fb hb kb ls aq aqs R ks kl, pj_SQ fq aq aqs R → pj_CX n mh O G fy fb hb kb ls → post (f_maxHeight, f_pool, f_length, fy, fq, kh, f_status, f_position, f_height, f_records, f_choices, f_forks, a_ops, a_args, fb, hb, kb, ls, aq, aqs, R, ks, kl, a_stack, a_locals, a_fields)) : wpX_judge post (f_maxHeight, f_pool, f_length, f_faulty, f_queued, f_kindHeight, f_status, f_position, f_height, f_records, f_choices, f_forks, a_ops, a_args, a_faultBits, a_heightBits, a_kindBits, a_leastSteps, a_queue, a_queueSteps, a_reached, a_kindStack, a_kindLocals, a_stack, a_locals, a_fields) := by
  have hn := W.1
  unfold wpX_judge
  refine mx_forget S (fun fb hb ls kb R h1 h2 h3 => nm_e (nm_e ?_))
  obtain ⟨m, Q, T, hm, hQ, hT, _⟩ := S
  refine mx_reach (n := n) (mh := mh) (O := O) (G := G) (p := 0) (s := 8) (e := 0) (m := 0) (Q := Q) (T := T) (q := 0) hn (by omega) hl rfl hQ hT ⟨⟨rfl, fun i hi => absurd hi (by decide +revert)⟩, by rfl, by rfl⟩ (by omega) ⟨fun j hj => by omega, fun N hN h => absurd (h3 N hN) h, by omega, fun i j _ hj => by omega⟩ (fun j hj => by omega) (by omega) (fun j hj ej => ?_) (fun f fy fb' m' Q' T' R' k1 k2 k3 k4 k5 k6 => ⟨17425, ?_⟩)
  · have e : (0 : Nat) = j := (nI_eq (by omega) (by omega)).mp ej
    subst e
    exact ⟨hn0, rfl, rfl⟩
  · obtain ⟨f0, i, hi, ei1, ei2⟩ := k3 0 hn0 rfl
    subst f0
    have ef : fb' = fb := by rw [k1.1, pj_or0]
    have ey : fy = 0 := k1.2.1 rfl
    refine mx_judgeL W hmh hl hO hG (fun fy m kh fb hb kb ls Q T R ks kl I => ?_) 17424 0 fy m' _ fb' hb kb ls Q' T' R' _ _ (by omega) ?_
    · refine H _ _ _ _ _ _ _ _ _ _ _ _ ⟨m, Q, T, rfl, rfl, rfl, pj_Qm I.1, fun j hj => (I.1.1 j hj).1, I.1.2.1⟩ (pj_XIe W I)
    · have no : ∀ b, ¬ bt 0 b = true := fun b h => by rw [b_0] at h; exact absurd h (by decide)
      refine ⟨k4, by omega, fun _ j hj => by have := k6 j hj; omega, fun i hi => by omega, ⟨i, hi, ei1, by omega⟩, fun p hp b hb => ?_, fun p hp b hb => ?_, fun p h pl hp hh hpl b hb => ?_, fun p hp => Or.inl ⟨(h1 p hp).2.2, fun i hi => by omega⟩, ?_⟩
      · rw [ef, (h1 p hp).1]
        exact ⟨fun h => absurd h (no b), fun ⟨i, hi, _⟩ => by omega⟩
      · rw [(h1 p hp).2.1]
        exact ⟨fun h => absurd h (no b), fun ⟨i, hi, _⟩ => by omega⟩
      · rw [h2 _ (by omega)]
        exact ⟨fun h => absurd h (no b), fun ⟨i, hi, _⟩ => by omega⟩
      · exact ⟨fun _ i hi => by omega, fun _ => ey⟩
end
