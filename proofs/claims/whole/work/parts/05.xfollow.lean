/-! the component's checker: noting, following, forgetting -/
theorem pj_btkd : ∀ d, d < 3 → ∀ b, b < 32 → bt (pj_kd d) b = decide (d = b) := by decide +kernel
theorem pj_sh1 : ∀ h, h < 5 → (1 : Int32) <<< (nI h &&& 31) = nI (2 ^ h) := by decide +kernel
theorem pj_orK {f : Nat → Int32} {x0 d : Nat} (hd : d < 3) {x b : Nat} (hb : b < 32) : bt (pj_or f x0 (pj_kd d) x) b = true ↔ bt (f x) b = true ∨ (x = x0 ∧ d = b) := by
  unfold pj_or
  by_cases e : x = x0
  · subst e
    rw [pk_us, b_or, pj_btkd d hd b hb, Bool.or_eq_true, decide_eq_true_iff]
    exact ⟨fun h => h.elim Or.inl (fun h => Or.inr ⟨rfl, h⟩), fun h => h.elim Or.inl (fun h => Or.inr h.2)⟩
  · rw [pk_un e]
    exact ⟨Or.inl, fun h => h.elim id (fun h => absurd h.1 e)⟩
section
variable {f_maxHeight f_pool f_length f_faulty f_queued f_kindHeight f_status f_position f_height f_records f_choices f_forks : Int32} {a_ops a_args a_faultBits a_heightBits a_kindBits a_leastSteps a_queue a_queueSteps a_reached a_kindStack a_kindLocals a_stack a_locals a_fields : Nat → Int32} {n mh : Nat} {O : Nat → Nat} {G : Nat → Int32}
theorem mx_cells {post : Int32 → Prop} {o : Nat} (ho : o ≤ 13) (H : post (nI (pj_nd o))) : wpX_cellsNeeded post (nI o) := by
  unfold wpX_cellsNeeded
  rcases pj_o14 ho with rfl | rfl | rfl | rfl | rfl | rfl | rfl | rfl | rfl | rfl | rfl | rfl | rfl | rfl <;> ((repeat (first | refine br_t (by decide) ?_ | refine br_f (by decide) ?_)); exact H)
theorem mx_room {post : Int32 → Prop} {o : Nat} (ho : o ≤ 13) (H1 : (o = 0 ∨ o = 1 ∨ o = 3 ∨ o = 8) → post 1) (H0 : ¬ (o = 0 ∨ o = 1 ∨ o = 3 ∨ o = 8) → post 0) : wpX_needsRoom post (nI o) := by
  unfold wpX_needsRoom
  rcases pj_o14 ho with rfl | rfl | rfl | rfl | rfl | rfl | rfl | rfl | rfl | rfl | rfl | rfl | rfl | rfl <;> ((repeat (first | refine br_t (by decide) ?_ | refine br_f (by decide) ?_)); first | exact H1 (by decide) | exact H0 (by decide))
theorem mx_note86 {post : SX → Prop} {sl a b : Nat} (hsl : sl + 5 < 480) (A : pj_A a b a_kindLocals) (H : post (f_maxHeight, f_pool, f_length, f_faulty, f_queued, f_kindHeight, f_status, f_position, f_height, f_records, f_choices, f_forks, a_ops, a_args, a_faultBits, a_heightBits, pj_or (pj_or a_kindBits (sl + 4) (pj_kd a)) (sl + 5) (pj_kd b), a_leastSteps, a_queue, a_queueSteps, a_reached, a_kindStack, a_kindLocals, a_stack, a_locals, a_fields)) : wX_noteSituation_86 post (nI sl) f_maxHeight f_pool f_length f_faulty f_queued f_kindHeight f_status f_position f_height f_records f_choices f_forks 3 0 a_ops a_args a_faultBits a_heightBits a_kindBits a_leastSteps a_queue a_queueSteps a_reached a_kindStack a_kindLocals a_stack a_locals a_fields := by
  have n4 : (4 : Int32) = nI 4 := rfl
  have e4 : nI sl + 4 + 0 = nI (sl + 4) := by rw [n4, nI_add]; exact Int32.add_zero _
  have e5 : nI sl + 4 + 1 = nI (sl + 5) := by rw [n4, nI_add, nI_1]
  refine br_f (by decide) ?_
  rw [e4]
  refine ⟨vp_in_nI (by omega) (by decide), vp_in_iff.mpr (by decide), vp_in_nI (by omega) (by decide), nm_e (nm_r (e' := 1) (by decide) ?_)⟩
  refine br_f (by decide) ?_
  rw [e5]
  refine ⟨vp_in_nI (by omega) (by decide), vp_in_iff.mpr (by decide), vp_in_nI (by omega) (by decide), nm_e (nm_r (e' := 2) (by decide) ?_)⟩
  refine br_t (by decide) ?_
  rw [nI_clamp (by omega), nI_clamp (by omega)]
  rw [← A.1, ← A.2] at H
  exact H
theorem mx_note43 {post : SX → Prop} {sl v : Nat} (hsl : sl + 5 < 480) (V : pj_V v f_kindHeight a_kindStack)
    (H : ∀ kb, (∀ x b, b < 32 → (bt (kb x) b = true ↔ bt (a_kindBits x) b = true ∨ ∃ pl, pl < pj_hg v ∧ x = sl + pl ∧ pj_dg v pl = b)) → wX_noteSituation_86 post (nI sl) f_maxHeight f_pool f_length f_faulty f_queued f_kindHeight f_status f_position f_height f_records f_choices f_forks 3 0 a_ops a_args a_faultBits a_heightBits (kb) a_leastSteps a_queue a_queueSteps a_reached a_kindStack a_kindLocals a_stack a_locals a_fields) :
    ∀ d i kb, i + d = pj_hg v → (∀ x b, b < 32 → (bt (kb x) b = true ↔ bt (a_kindBits x) b = true ∨ ∃ pl, pl < i ∧ x = sl + pl ∧ pj_dg v pl = b)) → wX_noteSituation_43 post (nI sl) f_maxHeight f_pool f_length f_faulty f_queued f_kindHeight f_status f_position f_height f_records f_choices f_forks (d + 1) (nI i) a_ops a_args a_faultBits a_heightBits (kb) a_leastSteps a_queue a_queueSteps a_reached a_kindStack a_kindLocals a_stack a_locals a_fields := by
  intro d
  have h4 := pj_hgle v
  induction d with
  | zero =>
    intro i kb hi hk
    have e : i = pj_hg v := by omega
    subst e
    exact br_t (by rw [V.1]; exact nI_le (Nat.le_refl _) (by omega)) ⟨3, H kb hk⟩
  | succ d ih =>
    intro i kb hi hk
    refine br_f (by rw [V.1]; exact nI_ge (by omega) (by omega)) (br_f (nI_ge (b := 4) (by omega) (by decide)) ?_)
    rw [nI_add]
    refine ⟨vp_in_nI (by omega) (by decide), vp_in_nI (by omega) (by decide), vp_in_nI (by omega) (by decide), nm_e (nm_r (nI_1 i) ?_)⟩
    rw [nI_clamp (by omega), nI_clamp (by omega), V.2 i (by omega)]
    refine ih (i + 1) _ (by omega) (fun x b hb => ?_)
    have h1 := pj_orK (f := kb) (x0 := sl + i) (pj_dg3 v i) (x := x) hb
    refine h1.trans ?_
    rw [hk x b hb]
    constructor
    · rintro ((h | ⟨pl, h2, h3⟩) | ⟨h2, h3⟩)
      · exact Or.inl h
      · exact Or.inr ⟨pl, by omega, h3⟩
      · exact Or.inr ⟨i, by omega, h2, h3⟩
    · rintro (h | ⟨pl, h2, h3, h4⟩)
      · exact Or.inl (Or.inl h)
      · by_cases e : pl = i
        · subst e
          exact Or.inr ⟨h3, h4⟩
        · exact Or.inl (Or.inr ⟨pl, by omega, h3, h4⟩)
theorem mx_note {post : SX → Prop} {p s : Nat} {t : Int32} (hp : p < 16) (P : pj_P s f_kindHeight a_kindStack a_kindLocals) (hs : s < 1089)
    (H : ∀ kb ls, (∀ x b, b < 32 → (bt (kb x) b = true ↔ bt (a_kindBits x) b = true ∨ ∃ pl, pl < 6 ∧ x = (p * 5 + pj_hg (s / 9)) * 6 + pl ∧ pj_Kd s (pj_hg (s / 9)) pl b)) → (0 ≤ a_leastSteps p → ls = a_leastSteps) → (¬ 0 ≤ a_leastSteps p → ls = upd a_leastSteps p t) →
      post (f_maxHeight, f_pool, f_length, f_faulty, f_queued, f_kindHeight, f_status, f_position, f_height, f_records, f_choices, f_forks, a_ops, a_args, a_faultBits, pj_or a_heightBits p (nI (2 ^ pj_hg (s / 9))), kb, ls, a_queue, a_queueSteps, a_reached, a_kindStack, a_kindLocals, a_stack, a_locals, a_fields)) : wpX_noteSituation post (f_maxHeight, f_pool, f_length, f_faulty, f_queued, f_kindHeight, f_status, f_position, f_height, f_records, f_choices, f_forks, a_ops, a_args, a_faultBits, a_heightBits, a_kindBits, a_leastSteps, a_queue, a_queueSteps, a_reached, a_kindStack, a_kindLocals, a_stack, a_locals, a_fields) (nI p) t := by
  have h4 := pj_hgle (s / 9)
  obtain ⟨V, A⟩ := P
  have key : ∀ ls, (0 ≤ a_leastSteps p → ls = a_leastSteps) → (¬ 0 ≤ a_leastSteps p → ls = upd a_leastSteps p t) → wX_noteSituation_16 post (nI p) f_maxHeight f_pool f_length f_faulty f_queued f_kindHeight f_status f_position f_height f_records f_choices f_forks a_ops a_args a_faultBits a_heightBits a_kindBits (ls) a_queue a_queueSteps a_reached a_kindStack a_kindLocals a_stack a_locals a_fields := fun ls l1 l2 => by
    refine ⟨vp_in_nI hp (by decide), vp_in_nI hp (by decide), nm_r (e' := pj_or a_heightBits p (nI (2 ^ pj_hg (s / 9)))) ?_ ?_⟩
    · rw [nI_clamp (by omega), V.1, pj_sh1 _ (by omega)]
      rfl
    · refine ⟨pj_hg (s / 9) + 1, ?_⟩
      have e : (nI p * 5 + f_kindHeight) * 6 = nI ((p * 5 + pj_hg (s / 9)) * 6) := by
        rw [V.1, show (5 : Int32) = nI 5 from rfl, show (6 : Int32) = nI 6 from rfl, pk_mul, nI_add, pk_mul]
      rw [e]
      refine mx_note43 (by omega) V (fun kb hk => ?_) (pj_hg (s / 9)) 0 a_kindBits (by omega) (fun x b hb => ⟨Or.inl, fun h => h.elim id (fun ⟨pl, h, _⟩ => by omega)⟩)
      refine mx_note86 (by omega) A (H _ ls (fun x b hb => ?_) l1 l2)
      have ha : s / 3 % 3 < 3 := by omega
      have hb3 : s % 3 < 3 := by omega
      refine (pj_orK hb3 hb).trans ?_
      rw [pj_orK ha hb, hk x b hb]
      unfold pj_Kd
      constructor
      · rintro (((h | ⟨pl, h1, h2, h3⟩) | ⟨h1, h2⟩) | ⟨h1, h2⟩)
        · exact Or.inl h
        · exact Or.inr ⟨pl, by omega, h2, Or.inl ⟨h1, h3⟩⟩
        · exact Or.inr ⟨4, by omega, h1, Or.inr (Or.inl ⟨rfl, h2⟩)⟩
        · exact Or.inr ⟨5, by omega, h1, Or.inr (Or.inr ⟨rfl, h2⟩)⟩
      · rintro (h | ⟨pl, h1, h2, (⟨h3, h5⟩ | ⟨rfl, h5⟩ | ⟨rfl, h5⟩)⟩)
        · exact Or.inl (Or.inl (Or.inl h))
        · exact Or.inl (Or.inl (Or.inr ⟨pl, h3, h2, h5⟩))
        · exact Or.inl (Or.inr ⟨h2, h5⟩)
        · exact Or.inr ⟨h2, h5⟩
  refine ⟨vp_in_nI hp (by decide), br_c (fun h => ?_) (fun h => ⟨vp_in_nI hp (by decide), nm_e ?_⟩)⟩
  · rw [nI_clamp (by omega)] at h
    exact key _ (fun _ => rfl) (fun z => absurd h z)
  · rw [nI_clamp (by omega)] at h
    rw [nI_clamp (by omega)]
    exact key _ (fun z => absurd z h) (fun _ => rfl)
/-! following -/
theorem mx_f99 {post : SX → Prop} {p s e m o : Nat} {Q T : Nat → Nat} (hn : n ≤ 16) (hp : p < n) (ho : o ≤ 13) (hl : f_length = nI n) (hm : f_queued = nI m) (hQ : a_queue = pj_nF Q) (hT : a_queueSteps = pj_nF T)
    (P : pj_P s f_kindHeight a_kindStack a_kindLocals) (hs : s < 1089) (I : pj_Q n mh O G m Q T a_reached) (hb : ∀ j, j < m → T j ≤ e) (he : e ≤ m) (hD : o ≠ 10 → o ≠ 13 → p + 1 < n → pj_D n mh O G e (p + 1) s)
    (H : ∀ f fy fb m' Q' T' R', pj_Ef p f f_faulty a_faultBits fy fb → (f = if o ≠ 10 ∧ o ≠ 13 ∧ n ≤ p + 1 then 8 else 0) → (o ≠ 10 → o ≠ 13 → p + 1 < n → ∃ i, i < m' ∧ Q' i = pj_xn (p + 1) s ∧ T' i ≤ e) → pj_Q n mh O G m' Q' T' R' → pj_E m Q T m' Q' T' → (∀ i, i < m' → T' i ≤ e) →
      post (f_maxHeight, f_pool, f_length, fy, nI m', f_kindHeight, f_status, f_position, f_height, f_records, f_choices, f_forks, a_ops, a_args, fb, a_heightBits, a_kindBits, a_leastSteps, pj_nF Q', pj_nF T', R', a_kindStack, a_kindLocals, a_stack, a_locals, a_fields)) : wX_follow_99 post (nI p) (nI e) (nI o) f_maxHeight f_pool f_length f_faulty f_queued f_kindHeight f_status f_position f_height f_records f_choices f_forks a_ops a_args a_faultBits a_heightBits a_kindBits a_leastSteps a_queue a_queueSteps a_reached a_kindStack a_kindLocals a_stack a_locals a_fields := by
  have same : ¬ (o ≠ 10 ∧ o ≠ 13) → post (f_maxHeight, f_pool, f_length, f_faulty, f_queued, f_kindHeight, f_status, f_position, f_height, f_records, f_choices, f_forks, a_ops, a_args, a_faultBits, a_heightBits, a_kindBits, a_leastSteps, a_queue, a_queueSteps, a_reached, a_kindStack, a_kindLocals, a_stack, a_locals, a_fields) := fun h => by
    subst hm hQ hT
    refine H 0 _ _ m Q T _ (pj_Ef0 _ _ _) (by rw [if_neg (fun z => h ⟨z.1, z.2.1⟩)]) (fun h1 h2 => absurd ⟨h1, h2⟩ h) I (pj_Er _ _ _) hb
  refine pk_eq o 10 (fun h => same (by omega)) (fun h10 => pk_eq o 13 (fun h => same (by omega)) (fun h13 => ?_))
  rw [nI_1]
  refine mx_reach hn (by omega) hl hm hQ hT P hs I hb he (fun j hj ej => ?_) (fun f fy fb m' Q' T' R' h1 h2 h3 h4 h5 h6 => H f fy fb m' Q' T' R' h1 ?_ (fun _ _ h => (h3 _ h rfl).2) h4 h5 h6)
  · have e1 := (nI_eq (by omega) (by omega)).mp ej
    subst e1
    exact hD h10 h13 hj
  · rcases Nat.lt_or_ge (p + 1) n with h | h
    · rw [if_neg (by omega)]
      exact (h3 _ h rfl).1
    · rw [if_pos ⟨h10, h13, h⟩]
      exact h2 (Or.inr (nI_le h (by omega)))
theorem mx_f87 {post : SX → Prop} {p s e m o : Nat} {Q T : Nat → Nat} (hn : n ≤ 16) (hp : p < n) (ho : o ≤ 13) (hl : f_length = nI n) (hm : f_queued = nI m) (hQ : a_queue = pj_nF Q) (hT : a_queueSteps = pj_nF T)
    (P : pj_P s f_kindHeight a_kindStack a_kindLocals) (hs : s < 1089) (I : pj_Q n mh O G m Q T a_reached) (hb : ∀ j, j < m → T j ≤ e) (he : e ≤ m) (hD : o ≠ 10 → o ≠ 13 → p + 1 < n → pj_D n mh O G e (p + 1) s) (hD2 : ∀ j, j < n → a_args p = nI j → pj_D n mh O G e j s)
    (H : ∀ f fy fb m' Q' T' R', pj_Ef p f f_faulty a_faultBits fy fb → (f = if (a_args p < 0 ∨ nI n ≤ a_args p) ∨ (o ≠ 10 ∧ o ≠ 13 ∧ n ≤ p + 1) then 8 else 0) → (∀ j, j < n → a_args p = nI j → ∃ i, i < m' ∧ Q' i = pj_xn j s ∧ T' i ≤ e) → (o ≠ 10 → o ≠ 13 → p + 1 < n → ∃ i, i < m' ∧ Q' i = pj_xn (p + 1) s ∧ T' i ≤ e) → pj_Q n mh O G m' Q' T' R' → pj_E m Q T m' Q' T' → (∀ i, i < m' → T' i ≤ e) →
      post (f_maxHeight, f_pool, f_length, fy, nI m', f_kindHeight, f_status, f_position, f_height, f_records, f_choices, f_forks, a_ops, a_args, fb, a_heightBits, a_kindBits, a_leastSteps, pj_nF Q', pj_nF T', R', a_kindStack, a_kindLocals, a_stack, a_locals, a_fields)) : wX_follow_87 post (nI p) (nI e) (nI o) f_maxHeight f_pool f_length f_faulty f_queued f_kindHeight f_status f_position f_height f_records f_choices f_forks a_ops a_args a_faultBits a_heightBits a_kindBits a_leastSteps a_queue a_queueSteps a_reached a_kindStack a_kindLocals a_stack a_locals a_fields := by
  refine ⟨vp_in_nI (by omega) (by decide), ?_⟩
  rw [nI_clamp (by omega)]
  refine mx_reach hn (by omega) hl hm hQ hT P hs I hb he hD2 (fun f fy fb m' Q' T' R' h1 h2 h3 h4 h5 h6 => ?_)
  refine mx_f99 hn hp ho hl rfl rfl rfl P hs h4 h6 (by have := h5.1; omega) hD (fun g gy gb m2 Q2 T2 R2 k1 k2 k3 k4 k5 k6 => ?_)
  refine H (f ||| g) gy gb m2 Q2 T2 R2 (pj_Eft h1 k1) ?_ (fun j hj ej => ?_) k3 k4 (pj_Et h5 k5) k6
  · by_cases c1 : a_args p < 0 ∨ nI n ≤ a_args p
    · rw [if_pos (Or.inl c1), h2 c1, k2]
      split <;> rfl
    · have : f = 0 := by
        rcases pk_ix (a_args p) (n := n) (by omega) with h | h | ⟨j, hj, ej⟩
        · exact absurd (Or.inl h) c1
        · exact absurd (Or.inr h) c1
        · exact (h3 j hj ej).1
      subst this
      rw [k2, Nat.zero_or]
      by_cases c2 : o ≠ 10 ∧ o ≠ 13 ∧ n ≤ p + 1
      · rw [if_pos c2, if_pos (Or.inr c2)]
      · rw [if_neg c2, if_neg (fun z => z.elim c1 c2)]
  · obtain ⟨i, a1, a2, a3⟩ := (h3 j hj ej).2
    obtain ⟨b1, b2⟩ := k5.2 i a1
    exact ⟨i, Nat.lt_of_lt_of_le a1 k5.1, b1.trans a2, by rw [b2]; exact a3⟩
theorem mx_f64 {post : SX → Prop} {p s t m : Nat} {Q T : Nat → Nat} (W : pj_PG n mh O G) (hp : p < n) (hl : f_length = nI n) (hm : f_queued = nI m) (hQ : a_queue = pj_nF Q) (hT : a_queueSteps = pj_nF T) (hG : a_args = G)
    (P : pj_P s f_kindHeight a_kindStack a_kindLocals) (hs : s < 1089) (hk : pj_sk mh (O p) s = 0) (hDt : pj_D n mh O G t p s) (I : pj_Q n mh O G m Q T a_reached) (hb : ∀ j, j < m → T j ≤ t + 1) (he : t + 1 ≤ m)
    (H : ∀ kh ks kl f fy fb m' Q' T' R', pj_Ef p f f_faulty a_faultBits fy fb → (f = if pj_lv n (O p) p (G p) then 8 else 0) → (∀ q s', pj_St n mh O G p s q s' → ∃ i, i < m' ∧ Q' i = pj_xn q s' ∧ T' i ≤ t + 1) → pj_Q n mh O G m' Q' T' R' → pj_E m Q T m' Q' T' → (∀ i, i < m' → T' i ≤ t + 1) →
      post (f_maxHeight, f_pool, f_length, fy, nI m', kh, f_status, f_position, f_height, f_records, f_choices, f_forks, a_ops, a_args, fb, a_heightBits, a_kindBits, a_leastSteps, pj_nF Q', pj_nF T', R', ks, kl, a_stack, a_locals, a_fields)) : wX_follow_64 post (nI p) (nI (t + 1)) (nI (O p)) f_maxHeight f_pool f_length f_faulty f_queued f_kindHeight f_status f_position f_height f_records f_choices f_forks a_ops a_args a_faultBits a_heightBits a_kindBits a_leastSteps a_queue a_queueSteps a_reached a_kindStack a_kindLocals a_stack a_locals a_fields := by
  obtain ⟨hn, m1, m4, hO, hA⟩ := W
  have ho := hO p hp
  subst hG
  refine ⟨vp_in_nI (by omega) (by decide), ?_⟩
  rw [nI_clamp (by omega)]
  refine mx_changeKinds P hs ho m4 hk (hA p hp) (fun kh ks kl P' => ?_)
  have hs' := pj_ch_lt (z := decide (a_args p = 0)) hs m4 hk
  have hS : ∀ q, q < n → (((O p = 10 ∨ O p = 11) ∧ a_args p = nI q) ∨ (O p ≠ 10 ∧ O p ≠ 13 ∧ q = p + 1)) → pj_D n mh O a_args (t + 1) q (pj_ch (O p) (decide (a_args p = 0)) s) := fun q hq h => ⟨p, s, hDt, hq, hk, rfl, h⟩
  have hD1 : O p ≠ 10 → O p ≠ 13 → p + 1 < n → pj_D n mh O a_args (t + 1) (p + 1) (pj_ch (O p) (decide (a_args p = 0)) s) := fun h1 h2 h3 => hS _ h3 (Or.inr ⟨h1, h2, rfl⟩)
  have with87 : (O p = 10 ∨ O p = 11) → wX_follow_87 post (nI p) (nI (t + 1)) (nI (O p)) f_maxHeight f_pool f_length f_faulty f_queued (kh) f_status f_position f_height f_records f_choices f_forks a_ops a_args a_faultBits a_heightBits a_kindBits a_leastSteps a_queue a_queueSteps a_reached (ks) (kl) a_stack a_locals a_fields := fun h1011 => by
    refine mx_f87 hn hp ho hl hm hQ hT P' hs' I hb he hD1 (fun j hj ej => hS j hj (Or.inl ⟨h1011, ej⟩)) (fun f fy fb m' Q' T' R' h1 h2 h3 h4 h5 h6 h7 => H kh ks kl f fy fb m' Q' T' R' h1 ?_ (fun q s' hst => ?_) h5 h6 h7)
    · rw [h2]
      have e : pj_lv n (O p) p (a_args p) = decide ((a_args p < 0 ∨ nI n ≤ a_args p) ∨ (O p ≠ 10 ∧ O p ≠ 13 ∧ n ≤ p + 1)) := by
        unfold pj_lv
        exact decide_eq_decide.mpr ⟨fun h => h.elim (fun h => Or.inl h.2) Or.inr, fun h => h.elim (fun h => Or.inl ⟨h1011, h⟩) Or.inr⟩
      rw [e]
      by_cases c : (a_args p < 0 ∨ nI n ≤ a_args p) ∨ (O p ≠ 10 ∧ O p ≠ 13 ∧ n ≤ p + 1)
      · rw [if_pos c, decide_eq_true c]; rfl
      · rw [if_neg c, decide_eq_false c]; rfl
    · obtain ⟨s1, s2, rfl, (⟨_, s4⟩ | ⟨s4, s5, rfl⟩)⟩ := hst
      · exact h3 q s1 s4
      · exact h4 s4 s5 s1
  refine pk_eq (O p) 10 (fun h => with87 (Or.inl h)) (fun h10 => pk_eq (O p) 11 (fun h => with87 (Or.inr h)) (fun h11 => ?_))
  refine mx_f99 hn hp ho hl hm hQ hT P' hs' I hb he hD1 (fun f fy fb m' Q' T' R' h1 h2 h3 h4 h5 h6 => H kh ks kl f fy fb m' Q' T' R' h1 ?_ (fun q s' hst => ?_) h4 h5 h6)
  · rw [h2]
    have e : pj_lv n (O p) p (a_args p) = decide (O p ≠ 10 ∧ O p ≠ 13 ∧ n ≤ p + 1) := by
      unfold pj_lv
      exact decide_eq_decide.mpr ⟨fun h => h.elim (fun h => h.1.elim (fun z => absurd z h10) (fun z => absurd z h11)) id, Or.inr⟩
    rw [e]
    by_cases c : O p ≠ 10 ∧ O p ≠ 13 ∧ n ≤ p + 1
    · rw [if_pos c, decide_eq_true c]; rfl
    · rw [if_neg c, decide_eq_false c]; rfl
  · obtain ⟨s1, s2, rfl, (⟨s3, s4⟩ | ⟨s4, s5, rfl⟩)⟩ := hst
    · exact s3.elim (fun z => absurd z h10) (fun z => absurd z h11)
    · exact h3 s4 s5 s1
theorem mx_follow {post : SX → Prop} {p s t m : Nat} {Q T : Nat → Nat} (W : pj_PG n mh O G) (hp : p < n) (hmh : f_maxHeight = nI mh) (hl : f_length = nI n) (hm : f_queued = nI m) (hQ : a_queue = pj_nF Q) (hT : a_queueSteps = pj_nF T) (hO : a_ops = pj_nF O) (hG : a_args = G)
    (P : pj_P s f_kindHeight a_kindStack a_kindLocals) (hs : s < 1089) (hDt : pj_D n mh O G t p s) (I : pj_Q n mh O G m Q T a_reached) (hb : ∀ j, j < m → T j ≤ t + 1) (he : t + 1 ≤ m)
    (H : ∀ kh ks kl fy fb m' Q' T' R', pj_Ef p (pj_fl n mh (O p) p (G p) s) f_faulty a_faultBits fy fb → (∀ q s', pj_St n mh O G p s q s' → ∃ i, i < m' ∧ Q' i = pj_xn q s' ∧ T' i ≤ t + 1) → pj_Q n mh O G m' Q' T' R' → pj_E m Q T m' Q' T' → (∀ i, i < m' → T' i ≤ t + 1) →
      post (f_maxHeight, f_pool, f_length, fy, nI m', kh, f_status, f_position, f_height, f_records, f_choices, f_forks, a_ops, a_args, fb, a_heightBits, a_kindBits, a_leastSteps, pj_nF Q', pj_nF T', R', ks, kl, a_stack, a_locals, a_fields)) : wpX_follow post (f_maxHeight, f_pool, f_length, f_faulty, f_queued, f_kindHeight, f_status, f_position, f_height, f_records, f_choices, f_forks, a_ops, a_args, a_faultBits, a_heightBits, a_kindBits, a_leastSteps, a_queue, a_queueSteps, a_reached, a_kindStack, a_kindLocals, a_stack, a_locals, a_fields) (nI p) (nI (t + 1)) := by
  have ho := W.2.2.2.1 p hp
  have hn := W.1
  have hm4 := W.2.2.1
  have h4 := pj_hgle (s / 9)
  have e0 : a_ops (nI p).toNatClampNeg = nI (O p) := by rw [nI_clamp (by omega), hO]; rfl
  refine ⟨vp_in_nI (by omega) (by decide), nm_r e0 ?_⟩
  refine mx_cells ho ?_
  have bad : ∀ f, f ≠ 0 → pj_sk mh (O p) s = f → post (f_maxHeight, f_pool, f_length, 1, f_queued, f_kindHeight, f_status, f_position, f_height, f_records, f_choices, f_forks, a_ops, a_args, pj_or a_faultBits p (nI f), a_heightBits, a_kindBits, a_leastSteps, a_queue, a_queueSteps, a_reached, a_kindStack, a_kindLocals, a_stack, a_locals, a_fields) := fun f hf h => by
    subst hm hQ hT
    have e : pj_fl n mh (O p) p (G p) s = f := by unfold pj_fl; rw [if_pos (by rw [h]; exact hf), h]
    refine H _ _ _ 1 _ m Q T _ ?_ (fun q s' hst => absurd (hst.2.1.symm.trans h) (fun z => hf z.symm)) I (pj_Er _ _ _) hb
    rw [e]
    exact ⟨rfl, fun z => absurd z hf, fun _ => rfl⟩
  have f50 : pj_sk mh (O p) s = 0 → wX_follow_50 post (nI p) (nI (t + 1)) (nI (O p)) f_maxHeight f_pool f_length f_faulty f_queued f_kindHeight f_status f_position f_height f_records f_choices f_forks a_ops a_args a_faultBits a_heightBits a_kindBits a_leastSteps a_queue a_queueSteps a_reached a_kindStack a_kindLocals a_stack a_locals a_fields := fun hk => by
    have hnd := (pj_sk0 hk).1
    have e1 : pj_fl n mh (O p) p (G p) s = (if pj_kb (O p) (pj_tp (s / 9)) (pj_tp (pj_rs (s / 9))) then 4 else 0) + (if pj_lv n (O p) p (G p) then 8 else 0) := by unfold pj_fl; rw [if_neg (by omega)]
    refine mx_kindsFit P.1 (by omega) ho hnd (fun hkb => br_t rfl ?_) (fun hkb => br_f (by decide) ?_)
    · refine mx_noteFault (by omega) ?_
      refine mx_f64 W hp hl hm hQ hT hG P hs hk hDt I hb he (fun kh ks kl f fy fb m' Q' T' R' h1 h2 h3 h4 h5 h6 => H kh ks kl fy fb m' Q' T' R' ?_ h3 h4 h5 h6)
      have e2 : pj_fl n mh (O p) p (G p) s = 4 ||| f := by
        rw [e1, hkb, h2]
        by_cases c : pj_lv n (O p) p (G p) = true
        · rw [if_pos c]; rfl
        · rw [if_neg c]; rfl
      rw [e2]
      exact pj_Eft ⟨rfl, fun z => absurd z (by decide), fun _ => rfl⟩ h1
    · refine mx_f64 W hp hl hm hQ hT hG P hs hk hDt I hb he (fun kh ks kl f fy fb m' Q' T' R' h1 h2 h3 h4 h5 h6 => H kh ks kl fy fb m' Q' T' R' ?_ h3 h4 h5 h6)
      have e2 : pj_fl n mh (O p) p (G p) s = f := by
        rw [e1, hkb, h2]
        by_cases c : pj_lv n (O p) p (G p) = true
        · rw [if_pos c]; rfl
        · rw [if_neg c]; rfl
      rw [e2]
      exact h1
  have hnd2 : pj_nd (O p) ≤ 2 := by unfold pj_nd; (repeat' split) <;> omega
  refine pk_le (pj_nd (O p)) (pj_hg (s / 9)) (fun h1 => ?_) (fun h1 => ?_) rfl P.1.1
  · refine mx_room ho (fun c => br_f (by decide) ?_) (fun c => br_t rfl (f50 ?_))
    · refine pk_lt (pj_hg (s / 9)) mh (fun h2 => f50 ?_) (fun h2 => mx_noteFault (by omega) (bad 2 (by decide) ?_)) P.1.1 hmh
      · unfold pj_sk
        rw [if_neg (by omega), if_neg (fun z => by have := z.2; omega)]
      · unfold pj_sk
        rw [if_neg (by omega), if_pos ⟨c, h2⟩]
    · unfold pj_sk
      rw [if_neg (by omega), if_neg (fun z => c z.1)]
  · refine mx_noteFault (by omega) (bad 1 (by decide) ?_)
    unfold pj_sk
    rw [if_pos h1]
end
