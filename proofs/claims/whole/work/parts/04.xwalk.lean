/-! the component's checker, method by method -/
def pj_Q (n mh : Nat) (O : Nat → Nat) (G : Nat → Int32) (m : Nat) (Q T : Nat → Nat) (R : Nat → Int32) : Prop :=
  (∀ j, j < m → Q j < 17424 ∧ T j ≤ j ∧ pj_D n mh O G (T j) (pj_yp (Q j)) (pj_ys (Q j)) ∧ R (Q j) ≠ 0) ∧ (∀ N, N < 17424 → R N ≠ 0 → ∃ j, j < m ∧ Q j = N) ∧ m ≤ pj_cp (fun N => R N ≠ 0) 17424 ∧ (∀ i j, i ≤ j → j < m → T i ≤ T j)
def pj_E (m : Nat) (Q T : Nat → Nat) (m' : Nat) (Q' T' : Nat → Nat) : Prop := m ≤ m' ∧ ∀ j, j < m → Q' j = Q j ∧ T' j = T j
theorem pj_Er (m : Nat) (Q T : Nat → Nat) : pj_E m Q T m Q T := ⟨Nat.le_refl _, fun _ _ => ⟨rfl, rfl⟩⟩
theorem pj_Et {m m' m'' : Nat} {Q T Q' T' Q'' T'' : Nat → Nat} (h : pj_E m Q T m' Q' T') (h' : pj_E m' Q' T' m'' Q'' T'') : pj_E m Q T m'' Q'' T'' :=
  ⟨Nat.le_trans h.1 h'.1, fun j hj => ⟨((h'.2 j (Nat.lt_of_lt_of_le hj h.1)).1).trans (h.2 j hj).1, ((h'.2 j (Nat.lt_of_lt_of_le hj h.1)).2).trans (h.2 j hj).2⟩⟩
theorem pj_Qm {n mh : Nat} {O : Nat → Nat} {G : Nat → Int32} {m : Nat} {Q T : Nat → Nat} {R : Nat → Int32} (I : pj_Q n mh O G m Q T R) : m ≤ 17424 := Nat.le_trans I.2.2.1 (pj_cple _ _)
theorem pj_Qnew {n mh : Nat} {O : Nat → Nat} {G : Nat → Int32} {m N e : Nat} {Q T : Nat → Nat} {R : Nat → Int32} (I : pj_Q n mh O G m Q T R) (hN : N < 17424) (hR : R N = 0) (hD : pj_D n mh O G e (pj_yp N) (pj_ys N)) (hb : ∀ j, j < m → T j ≤ e) (he : e ≤ m) : m < 17424 ∧ pj_Q n mh O G (m + 1) (pj_uN Q m N) (pj_uN T m e) (upd R N 1) := by
  obtain ⟨h1, h2, h3, h4⟩ := I
  have hne : ∀ j, j < m → Q j ≠ N := fun j hj e => (h1 j hj).2.2.2 (by rw [e]; exact hR)
  refine ⟨?_, fun j hj => ?_, fun M hM hMR => ?_, ?_, fun i j hij hj => ?_⟩
  · have := pj_cpf (A := fun N => R N ≠ 0) hN (fun z => z hR)
    omega
  · rcases Nat.lt_or_ge j m with hjm | hjm
    · obtain ⟨a1, a2, a3, a4⟩ := h1 j hjm
      rw [pj_uNn (by omega), pj_uNn (by omega)]
      refine ⟨a1, a2, a3, ?_⟩
      rw [pk_un (hne j hjm)]
      exact a4
    · have ej : j = m := by omega
      subst ej
      rw [pj_uNs, pj_uNs]
      refine ⟨hN, he, hD, ?_⟩
      rw [pk_us]
      decide
  · by_cases eM : M = N
    · exact ⟨m, by omega, by rw [pj_uNs]; exact eM.symm⟩
    · rw [pk_un eM] at hMR
      obtain ⟨j, hj, e⟩ := h2 M hM hMR
      exact ⟨j, by omega, by rw [pj_uNn (by omega)]; exact e⟩
  · have h5 := pj_cps (A := fun N => R N ≠ 0) (B := fun M => upd R N 1 M ≠ 0) (N := N) (by show upd R N 1 N ≠ 0; rw [pk_us]; decide) (fun z => z hR) 17424 hN (fun i _ hi => by
      show upd R N 1 i ≠ 0
      by_cases e : i = N
      · subst e; rw [pk_us]; decide
      · rw [pk_un e]; exact hi)
    omega
  · rcases Nat.lt_or_ge j m with hjm | hjm
    · rw [pj_uNn (by omega), pj_uNn (by omega)]
      exact h4 i j hij hjm
    · have ej : j = m := by omega
      subst ej
      rw [pj_uNs]
      rcases Nat.lt_or_ge i j with hi | hi
      · rw [pj_uNn (by omega)]; exact hb i hi
      · have ei : i = j := by omega
        subst ei
        rw [pj_uNs]
        exact Nat.le_refl _
/-- what faults are noted at p: f -/
def pj_Ef (p f : Nat) (fy : Int32) (fb : Nat → Int32) (fy' : Int32) (fb' : Nat → Int32) : Prop := fb' = pj_or fb p (nI f) ∧ (f = 0 → fy' = fy) ∧ (f ≠ 0 → fy' = 1)
theorem pj_or0 (f : Nat → Int32) (p : Nat) : pj_or f p (nI 0) = f := by
  funext j
  show (if j = p then f p ||| 0 else f j) = f j
  split
  · rename_i e; rw [e]; exact Int32.or_zero
  · rfl
theorem pj_Ef0 (p : Nat) (fy : Int32) (fb : Nat → Int32) : pj_Ef p 0 fy fb fy fb := ⟨(pj_or0 fb p).symm, fun _ => rfl, fun h => absurd rfl h⟩
theorem pj_nIor (a b : Nat) : nI a ||| nI b = nI (a ||| b) := by
  apply Int32.toBitVec_inj.1
  show BitVec.ofNat 32 a ||| BitVec.ofNat 32 b = BitVec.ofNat 32 (a ||| b)
  apply BitVec.eq_of_getLsbD_eq
  intro i hi
  simp [hi]
theorem pj_oror (f : Nat → Int32) (p : Nat) (x y : Int32) : pj_or (pj_or f p x) p y = pj_or f p (x ||| y) := by
  funext j
  unfold pj_or
  by_cases e : j = p
  · subst e
    rw [pk_us, pk_us, pk_us, Int32.or_assoc]
  · rw [pk_un e, pk_un e, pk_un e]
theorem pj_Eft {p f g : Nat} {fy fy' fy'' : Int32} {fb fb' fb'' : Nat → Int32} (h : pj_Ef p f fy fb fy' fb') (h' : pj_Ef p g fy' fb' fy'' fb'') : pj_Ef p (f ||| g) fy fb fy'' fb'' := by
  obtain ⟨rfl, h1, h2⟩ := h
  obtain ⟨rfl, h3, h4⟩ := h'
  refine ⟨by rw [pj_oror, pj_nIor], fun z => ?_, fun z => ?_⟩
  · rw [Nat.or_eq_zero_iff] at z
    rw [h3 z.2, h1 z.1]
  · rw [Ne, Nat.or_eq_zero_iff] at z
    by_cases g0 : g = 0
    · rw [h3 g0]
      exact h2 (fun f0 => z ⟨f0, g0⟩)
    · exact h4 g0
theorem pj_nb0 : vp_nar .boolean 0 = 0 := rfl
theorem pj_nb1 : vp_nar .boolean 1 = 1 := rfl
section
variable {f_maxHeight f_pool f_length f_faulty f_queued f_kindHeight f_status f_position f_height f_records f_choices f_forks : Int32} {a_ops a_args a_faultBits a_heightBits a_kindBits a_leastSteps a_queue a_queueSteps a_reached a_kindStack a_kindLocals a_stack a_locals a_fields : Nat → Int32} {n mh : Nat} {O : Nat → Nat} {G : Nat → Int32}
theorem mx_noteFault {post : SX → Prop} {p : Nat} {x : Int32} (hp : p < 16) (H : post (f_maxHeight, f_pool, f_length, 1, f_queued, f_kindHeight, f_status, f_position, f_height, f_records, f_choices, f_forks, a_ops, a_args, pj_or a_faultBits p x, a_heightBits, a_kindBits, a_leastSteps, a_queue, a_queueSteps, a_reached, a_kindStack, a_kindLocals, a_stack, a_locals, a_fields)) : wpX_noteFault post (f_maxHeight, f_pool, f_length, f_faulty, f_queued, f_kindHeight, f_status, f_position, f_height, f_records, f_choices, f_forks, a_ops, a_args, a_faultBits, a_heightBits, a_kindBits, a_leastSteps, a_queue, a_queueSteps, a_reached, a_kindStack, a_kindLocals, a_stack, a_locals, a_fields) (nI p) x := by
  refine ⟨vp_in_nI hp (by decide), vp_in_nI hp (by decide), ?_⟩
  intro a ea
  subst ea
  rw [nI_clamp (by omega)]
  exact H
theorem mx_isPos {post : Int32 → Prop} {q : Int32} (hn : n ≤ 16) (hl : f_length = nI n) (H0 : q < 0 ∨ nI n ≤ q → post 0) (H1 : ∀ j, j < n → q = nI j → post 1) : wpX_isPosition post (f_maxHeight, f_pool, f_length, f_faulty, f_queued, f_kindHeight, f_status, f_position, f_height, f_records, f_choices, f_forks, a_ops, a_args, a_faultBits, a_heightBits, a_kindBits, a_leastSteps, a_queue, a_queueSteps, a_reached, a_kindStack, a_kindLocals, a_stack, a_locals, a_fields) q := by
  subst hl
  rcases pk_ix q (n := n) (by omega) with h | h | ⟨j, hj, rfl⟩
  · exact br_t h (H0 (Or.inl h))
  · by_cases h0 : q < 0
    · exact br_t h0 (H0 (Or.inl h0))
    · exact br_f h0 (br_t h (H0 (Or.inr h)))
  · exact br_f (nI_pos (by omega)) (br_f (nI_ge hj (by omega)) (H1 j hj rfl))
theorem mx_sitL {post : Int32 → Prop} {v a b : Nat} {x1 : Int32} (V : pj_V v f_kindHeight a_kindStack) (A : pj_A a b a_kindLocals) (ha : a < 3) (hb : b < 3) (H : post ((x1 * 121 + nI (pj_xr v)) * 9 + nI (a * 3 + b))) :
    ∀ i x, i ≤ pj_hg v → pj_fo v i x = pj_xr v → wX_situationNumber_9 post x1 f_maxHeight f_pool f_length f_faulty f_queued f_kindHeight f_status f_position f_height f_records f_choices f_forks a_ops a_args a_faultBits a_heightBits a_kindBits a_leastSteps a_queue a_queueSteps a_reached a_kindStack a_kindLocals a_stack a_locals a_fields (i + 1) (nI x) (nI i - 1) := by
  intro i
  induction i with
  | zero =>
    intro x _ hx
    have hx' : x = pj_xr v := hx
    subst hx'
    refine br_t (by decide) (nm_r (e' := nI (a * 3 + b)) ?_ H)
    rw [A.1, A.2, pj_kdshr a ha, pj_kdshr b hb, show (3 : Int32) = nI 3 from rfl, pk_mul, nI_add]
  | succ i ih =>
    intro x hi hx
    have h4 := pj_hgle v
    rw [nI_pred]
    refine br_f (nI_pos (by omega)) ⟨vp_in_nI (by omega) (by decide), ?_⟩
    refine nm_r (e' := nI (x * 3 + 1 + pj_dg v i)) ?_ (nm_r (e' := nI i - 1) ?_ (ih _ (by omega) hx))
    · rw [nI_clamp (by omega), V.2 i (by omega), pj_kdshr _ (pj_dg3 v i), show (3 : Int32) = nI 3 from rfl, pk_mul, nI_1, nI_add]
    · rw [Int32.sub_eq_add_neg]
theorem mx_sitNum {post : Int32 → Prop} {s q : Nat} (P : pj_P s f_kindHeight a_kindStack a_kindLocals) (hs : s < 1089) (H : post (nI (pj_xn q s))) : wpX_situationNumber post (f_maxHeight, f_pool, f_length, f_faulty, f_queued, f_kindHeight, f_status, f_position, f_height, f_records, f_choices, f_forks, a_ops, a_args, a_faultBits, a_heightBits, a_kindBits, a_leastSteps, a_queue, a_queueSteps, a_reached, a_kindStack, a_kindLocals, a_stack, a_locals, a_fields) (nI q) := by
  obtain ⟨V, A⟩ := P
  refine nm_r (e' := nI (pj_hg (s / 9)) - 1) (by rw [V.1]) ⟨pj_hg (s / 9) + 1, ?_⟩
  refine mx_sitL V A (by omega) (by omega) ?_ _ 0 (Nat.le_refl _) rfl
  rw [show (121 : Int32) = nI 121 from rfl, show (9 : Int32) = nI 9 from rfl, pk_mul, nI_add, pk_mul, nI_add]
  have e : (q * 121 + pj_xr (s / 9)) * 9 + (s / 3 % 3 * 3 + s % 3) = pj_xn q s := by unfold pj_xn; omega
  rw [e]
  exact H
theorem mx_reach {post : SX → Prop} {p s e m : Nat} {q : Int32} {Q T : Nat → Nat} (hn : n ≤ 16) (hp : p < 16) (hl : f_length = nI n) (hm : f_queued = nI m) (hQ : a_queue = pj_nF Q) (hT : a_queueSteps = pj_nF T)
    (P : pj_P s f_kindHeight a_kindStack a_kindLocals) (hs : s < 1089) (I : pj_Q n mh O G m Q T a_reached) (hb : ∀ j, j < m → T j ≤ e) (he : e ≤ m) (hD : ∀ j, j < n → q = nI j → pj_D n mh O G e j s)
    (H : ∀ f fy fb m' Q' T' R', pj_Ef p f f_faulty a_faultBits fy fb → ((q < 0 ∨ nI n ≤ q) → f = 8) → (∀ j, j < n → q = nI j → f = 0 ∧ ∃ i, i < m' ∧ Q' i = pj_xn j s ∧ T' i ≤ e) → pj_Q n mh O G m' Q' T' R' → pj_E m Q T m' Q' T' → (∀ i, i < m' → T' i ≤ e) →
      post (f_maxHeight, f_pool, f_length, fy, nI m', f_kindHeight, f_status, f_position, f_height, f_records, f_choices, f_forks, a_ops, a_args, fb, a_heightBits, a_kindBits, a_leastSteps, pj_nF Q', pj_nF T', R', a_kindStack, a_kindLocals, a_stack, a_locals, a_fields)) : wpX_reach post (f_maxHeight, f_pool, f_length, f_faulty, f_queued, f_kindHeight, f_status, f_position, f_height, f_records, f_choices, f_forks, a_ops, a_args, a_faultBits, a_heightBits, a_kindBits, a_leastSteps, a_queue, a_queueSteps, a_reached, a_kindStack, a_kindLocals, a_stack, a_locals, a_fields) (nI p) q (nI e) := by
  subst hm hQ hT
  unfold wpX_reach
  refine mx_isPos hn hl (fun h => br_t rfl (mx_noteFault hp ?_)) (fun j hj ej => br_f (by decide) ?_)
  · refine H 8 1 _ m Q T _ ⟨rfl, fun z => absurd z (by decide), fun _ => rfl⟩ (fun _ => rfl) (fun j hj ej => ?_) I (pj_Er _ _ _) hb
    subst ej
    rcases h with h | h
    · exact absurd h (nI_pos (by omega))
    · exact absurd h (nI_ge hj (by omega))
  · have hno : ¬ (q < 0 ∨ nI n ≤ q) := by
      subst ej
      rintro (h | h)
      · exact nI_pos (by omega) h
      · exact nI_ge hj (by omega) h
    have hu : ∀ j', j' < n → q = nI j' → j' = j := fun j' h1 h2 => (nI_eq (by omega) (by omega)).mp (h2.symm.trans ej)
    have hDj := hD j hj ej
    rw [ej]
    refine mx_sitNum P hs ?_
    have hN := pj_xnlt (p := j) (s := s) (by omega) hs
    have hm := pj_Qm I
    refine ⟨vp_in_nI hN (by decide), ?_⟩
    rw [nI_clamp (by omega)]
    have keep : ¬ a_reached (pj_xn j s) = 0 → post (f_maxHeight, f_pool, f_length, f_faulty, nI m, f_kindHeight, f_status, f_position, f_height, f_records, f_choices, f_forks, a_ops, a_args, a_faultBits, a_heightBits, a_kindBits, a_leastSteps, pj_nF Q, pj_nF T, a_reached, a_kindStack, a_kindLocals, a_stack, a_locals, a_fields) := fun hR => by
      refine H 0 _ _ m Q T _ (pj_Ef0 _ _ _) (fun h => absurd h hno) (fun j' h1 h2 => ⟨rfl, ?_⟩) I (pj_Er _ _ _) hb
      rw [hu j' h1 h2]
      obtain ⟨i, hi, ei⟩ := I.2.1 _ hN hR
      exact ⟨i, hi, ei, hb i hi⟩
    by_cases hR : a_reached (pj_xn j s) = 0
    · obtain ⟨hlt, I'⟩ := pj_Qnew I hN hR (by rw [pj_ypx hs, pj_ysx hs]; exact hDj) hb he
      refine br_t hR (br_t (nI_lt (b := 17424) hlt (by decide)) ⟨vp_in_nI hN (by decide), ?_⟩)
      refine nm_e ⟨vp_in_nI hlt (by decide), nm_e ⟨vp_in_nI hlt (by decide), nm_e (nm_e ?_)⟩⟩
      rw [nI_clamp (by omega), pj_nFu, pj_nFu, pj_nb1, nI_1]
      refine H 0 _ _ (m + 1) _ _ _ (pj_Ef0 _ _ _) (fun h => absurd h hno) (fun j' h1 h2 => ⟨rfl, ?_⟩) I' ⟨by omega, fun j hj => ⟨pj_uNn (by omega), pj_uNn (by omega)⟩⟩ (fun i hi => ?_)
      · rw [hu j' h1 h2]
        exact ⟨m, by omega, pj_uNs, by rw [pj_uNs]; exact Nat.le_refl _⟩
      · rcases Nat.lt_or_ge i m with h | h
        · rw [pj_uNn (by omega)]; exact hb i h
        · have ei : i = m := by omega
          subst ei
          rw [pj_uNs]
          exact Nat.le_refl _
    · exact br_f hR (keep hR)
theorem mx_takeL {post : Int32 → SX → Prop} {v : Nat} {x1 : Int32} (hv : v < 121) (H : ∀ kh ks, pj_V v kh ks → post ((x1 / 9) / 121) (f_maxHeight, f_pool, f_length, f_faulty, f_queued, kh, f_status, f_position, f_height, f_records, f_choices, f_forks, a_ops, a_args, a_faultBits, a_heightBits, a_kindBits, a_leastSteps, a_queue, a_queueSteps, a_reached, ks, a_kindLocals, a_stack, a_locals, a_fields)) :
    ∀ d i ks, i + d = pj_hg v → (∀ j, j < i → ks j = pj_kd (pj_dg v j)) → wX_takeSituation_43 post x1 (d + 1) (nI (pj_pp i (pj_xr v))) (nI i) f_maxHeight f_pool f_length f_faulty f_queued (nI i) f_status f_position f_height f_records f_choices f_forks a_ops a_args a_faultBits a_heightBits a_kindBits a_leastSteps a_queue a_queueSteps a_reached (ks) a_kindLocals a_stack a_locals a_fields := by
  intro d
  have h4 := pj_hgle v
  have hx := (pj_xr121 v hv).1
  induction d with
  | zero =>
    intro i ks hi hks
    have e : i = pj_hg v := by omega
    subst e
    have hp := H _ ks ⟨rfl, hks⟩
    refine pk_le 4 (pj_hg v) (fun _ => ⟨by decide, by decide, hp⟩) (fun _ => ?_)
    rw [pj_take0 v hv]
    exact br_t (by decide) ⟨by decide, by decide, hp⟩
  | succ d ih =>
    intro i ks hi hks
    obtain ⟨t1, t2⟩ := pj_take v hv i (by omega) (by omega)
    have hle := pj_pplt i (pj_xr v)
    refine br_f (nI_ge (b := 4) (by omega) (by decide)) (br_f (nI_nle t1 (by omega)) ⟨by decide, ?_⟩)
    have e1 : nI (pj_pp i (pj_xr v)) - 1 = nI (pj_pp i (pj_xr v) - 1) := by rw [show (1 : Int32) = nI 1 from rfl, pk_sub (by omega)]
    have e2 : (1 : Int32) <<< ((nI (pj_pp i (pj_xr v)) - 1 - (nI (pj_pp i (pj_xr v)) - 1) / 3 * 3) &&& 31) = pj_kd (pj_dg v i) := by
      rw [e1, show (3 : Int32) = nI 3 from rfl, pk_rem (by omega) (by omega) (by omega), t2]
      exact pj_kdshl _ (pj_dg3 v i)
    have e3 : (nI (pj_pp i (pj_xr v)) - 1) / 3 = nI (pj_pp (i + 1) (pj_xr v)) := by
      rw [e1, show (3 : Int32) = nI 3 from rfl, pk_div (by omega) (by omega) (by omega), pj_pps]
    refine br_f (nI_ge (b := 4) (by omega) (by decide)) ⟨vp_in_nI (by omega) (by decide), nm_e (nm_e ?_)⟩
    refine ⟨by decide, nm_r e3 (nm_r (nI_1 i) ?_)⟩
    rw [nI_clamp (by omega), e2, nI_1]
    refine ih (i + 1) _ (by omega) (fun j hj => ?_)
    rcases Nat.lt_or_ge j i with h | h
    · rw [pk_un (by omega)]; exact hks j h
    · have ej : j = i := by omega
      subst ej
      rw [pk_us]
theorem mx_take {post : Int32 → SX → Prop} {p s : Nat} (hp : p < 16) (hs : s < 1089) (H : ∀ kh ks kl, pj_P s kh ks kl → post (nI p) (f_maxHeight, f_pool, f_length, f_faulty, f_queued, kh, f_status, f_position, f_height, f_records, f_choices, f_forks, a_ops, a_args, a_faultBits, a_heightBits, a_kindBits, a_leastSteps, a_queue, a_queueSteps, a_reached, ks, kl, a_stack, a_locals, a_fields)) : wpX_takeSituation post (f_maxHeight, f_pool, f_length, f_faulty, f_queued, f_kindHeight, f_status, f_position, f_height, f_records, f_choices, f_forks, a_ops, a_args, a_faultBits, a_heightBits, a_kindBits, a_leastSteps, a_queue, a_queueSteps, a_reached, a_kindStack, a_kindLocals, a_stack, a_locals, a_fields) (nI (pj_xn p s)) := by
  have hN := pj_xnlt hp hs
  have hx := (pj_xr121 (s / 9) (by omega)).1
  have q1 : pj_xn p s % 9 = s % 9 := by unfold pj_xn; omega
  have q2 : pj_xn p s / 9 % 121 = pj_xr (s / 9) := by unfold pj_xn; omega
  have q3 : pj_xn p s / 9 / 121 = p := by unfold pj_xn; omega
  have n9 : (9 : Int32) = nI 9 := rfl
  have n3 : (3 : Int32) = nI 3 := rfl
  have n121 : (121 : Int32) = nI 121 := rfl
  refine ⟨by decide, nm_r (e' := nI (s % 9)) ?_ ⟨by decide, nm_r (e' := upd a_kindLocals 0 (pj_kd (s / 3 % 3))) ?_ ⟨by decide, nm_r (e' := upd (upd a_kindLocals 0 (pj_kd (s / 3 % 3))) 1 (pj_kd (s % 3))) ?_ ⟨by decide, by decide, nm_r (e' := nI (pj_xr (s / 9))) ?_ ⟨pj_hg (s / 9) + 1, ?_⟩⟩⟩⟩⟩
  · rw [n9, pk_rem (by omega) (by omega) (by omega), q1]
  · rw [n3, pk_div (by omega) (by omega) (by omega), show s % 9 / 3 = s / 3 % 3 by omega, pj_kdshl _ (by omega)]
  · rw [n3, pk_rem (by omega) (by omega) (by omega), show s % 9 % 3 = s % 3 by omega, pj_kdshl _ (by omega)]
  · rw [n9, n121, pk_div (by omega) (by omega) (by omega), pk_rem (by omega) (by omega) (by omega), q2]
  · refine mx_takeL (by omega) (fun kh ks V => ?_) (pj_hg (s / 9)) 0 a_kindStack (by omega) (fun j hj => by omega)
    rw [n9, n121, pk_div (by omega) (by omega) (by omega), pk_div (by omega) (by omega) (by omega), q3]
    exact H _ _ _ ⟨V, by rw [pk_un (by decide), pk_us], by rw [pk_us]⟩
end
