/-! the machine: one instruction on both sides -/
theorem pj_fl0 {n mh o p : Nat} {g : Int32} {s : Nat} (h : pj_fl n mh o p g s = 0) : pj_sk mh o s = 0 ∧ pj_kb o (pj_tp (s / 9)) (pj_tp (pj_rs (s / 9))) = false ∧ pj_lv n o p g = false := by
  unfold pj_fl at h
  by_cases c : pj_sk mh o s = 0
  · rw [if_neg (by omega)] at h
    refine ⟨c, ?_, ?_⟩
    · cases e : pj_kb o (pj_tp (s / 9)) (pj_tp (pj_rs (s / 9)))
      · rfl
      · rw [e, if_pos rfl] at h
        omega
    · cases e : pj_lv n o p g
      · rfl
      · rw [e, if_pos rfl] at h
        omega
  · rw [if_pos c] at h
    exact absurd h c
theorem pj_fork (x : Int32) : ((x &&& 31) + 1) &&& 31 = (x + 1) &&& 31 := by
  have e1 : x &&& 31 = nI (x.toBitVec.toNat % 32) := pk_and x 5 (by decide)
  rw [e1, nI_1, pk_and _ 5 (by decide), pk_and (x + 1) 5 (by decide), pk_tn (by omega), Int32.toBitVec_add, BitVec.toNat_add]
  have e2 : (1 : Int32).toBitVec.toNat = 1 := by decide
  rw [e2]
  generalize x.toBitVec.toNat = y
  have e3 : (y % 32 + 1) % 2 ^ 5 = (y + 1) % 2 ^ 32 % 2 ^ 5 := by omega
  rw [e3]
theorem pj_ubit (x : Int32) {t : Nat} (ht : t < 32) : ((x.toUInt32 >>> ((nI t).toUInt32 &&& Int32.toUInt32 31)).toInt32 &&& 1) = 1 ↔ bt x t = true := by
  have e : bt ((x.toUInt32 >>> ((nI t).toUInt32 &&& Int32.toUInt32 31)).toInt32) 0 = bt x t := by rw [b_ushr t ht x 0]; rfl
  constructor
  · intro h
    have h1 : bt ((x.toUInt32 >>> ((nI t).toUInt32 &&& Int32.toUInt32 31)).toInt32 &&& 1) 0 = bt 1 0 := by rw [h]
    rw [b_and, e, pj_b1 0 (by omega)] at h1
    simpa using h1
  · intro h
    apply b_ext
    intro i hi
    rw [b_and, pj_b1 i hi]
    by_cases c : i = 0
    · subst c
      rw [e, h]
      rfl
    · rw [decide_eq_false c, Bool.and_false]
section
variable {f_maxHeight f_pool f_length f_faulty f_queued f_kindHeight f_status f_position f_height f_records f_choices f_forks : Int32} {a_ops a_args a_faultBits a_heightBits a_kindBits a_leastSteps a_queue a_queueSteps a_reached a_kindStack a_kindLocals a_stack a_locals a_fields : Nat → Int32} {g_greatest g_poolSize g_count g_doing g_pc g_tall g_made g_forks g_bits : Int32} {d_ops d_args d_reached d_fresh d_coming d_dist d_stack d_locals d_fields : Nat → Int32} {n mh pl p h m : Nat} {O : Nat → Nat} {G : Nat → Int32}
theorem mx_nop {post : SX → Prop} {o : Nat} {g : Int32} (ho : o = 10 ∨ o = 11) (hh : f_height = nI h) (h4 : h ≤ 4) (H : post (f_maxHeight, f_pool, f_length, f_faulty, f_queued, f_kindHeight, f_status, f_position, f_height, f_records, f_choices, f_forks, a_ops, a_args, a_faultBits, a_heightBits, a_kindBits, a_leastSteps, a_queue, a_queueSteps, a_reached, a_kindStack, a_kindLocals, a_stack, a_locals, a_fields)) : wpX_changeCells post (f_maxHeight, f_pool, f_length, f_faulty, f_queued, f_kindHeight, f_status, f_position, f_height, f_records, f_choices, f_forks, a_ops, a_args, a_faultBits, a_heightBits, a_kindBits, a_leastSteps, a_queue, a_queueSteps, a_reached, a_kindStack, a_kindLocals, a_stack, a_locals, a_fields) (nI o) g := by
  unfold wpX_changeCells
  refine mx_cb0 hh h4 (fun r1 t1 => mx_cb1 hh h4 (fun r2 t2 => ?_))
  rcases ho with rfl | rfl
  · (repeat (first | refine br_t (by decide) ?_ | refine br_f (by decide) ?_))
    exact H
  · (repeat (first | refine br_t (by decide) ?_ | refine br_f (by decide) ?_))
    exact H
theorem mm_X {post : Int32 → SX → Prop} (hn : n ≤ 16) (hp : p < n) (H3 : O p = 1 → pl ≤ m → post 0 (f_maxHeight, nI pl, nI n, f_faulty, f_queued, f_kindHeight, 3, nI p, f_height, nI m, f_choices, f_forks, pj_nF O, G, a_faultBits, a_heightBits, a_kindBits, a_leastSteps, a_queue, a_queueSteps, a_reached, a_kindStack, a_kindLocals, a_stack, a_locals, a_fields)) (pl8 : pl ≤ 8) (m8 : m ≤ 8)
    (H : ¬ (O p = 1 ∧ pl ≤ m) → wX_carryOut_64 post (nI (O p)) (G p) f_maxHeight (nI pl) (nI n) f_faulty f_queued f_kindHeight (1) (nI p) f_height (nI m) f_choices f_forks (pj_nF O) (G) a_faultBits a_heightBits a_kindBits a_leastSteps a_queue a_queueSteps a_reached a_kindStack a_kindLocals a_stack a_locals a_fields) (ho : O p ≤ 13) : wpX_carryOut post (f_maxHeight, nI pl, nI n, f_faulty, f_queued, f_kindHeight, 1, nI p, f_height, nI m, f_choices, f_forks, pj_nF O, G, a_faultBits, a_heightBits, a_kindBits, a_leastSteps, a_queue, a_queueSteps, a_reached, a_kindStack, a_kindLocals, a_stack, a_locals, a_fields) := by
  unfold wpX_carryOut
  refine br_t rfl (mx_isPos (n := n) hn rfl (fun z => ?_) (fun j hj ej => br_f (by decide) ?_))
  · rcases z with z | z
    · exact absurd z (nI_pos (by omega))
    · exact absurd z (nI_ge hp (by omega))
  · have hin := vp_in_nI (n := p) (N := 16) (by omega) (by decide)
    refine ⟨hin, nm_r (e' := nI (O p)) (by rw [nI_clamp (by omega)]; rfl) ⟨hin, nm_r (e' := G p) (by rw [nI_clamp (by omega)]) ?_⟩⟩
    refine pk_eq (O p) 1 (fun o1 => pk_lt m pl (fun hlt => H (by omega)) (fun hge => H3 o1 hge)) (fun o1 => H (fun z => o1 z.1))
/-- one instruction of a running machine, on both sides -/
theorem mm_carry (W : pj_PG n mh O G) (pl8 : pl ≤ 8) (hm : m ≤ pl) (h4 : h ≤ 4) (l0 : a_locals 0 = d_locals 0) (l1 : a_locals 1 = d_locals 1) (T : pj_T n mh O G p h m a_stack a_locals) :
    p < n ∧ O p ≤ 13 ∧
    ((O p = 1 ∧ pl ≤ m ∧ ∀ post : Int32 → SX → Prop, post 0 (nI mh, nI pl, nI n, f_faulty, f_queued, f_kindHeight, 3, nI p, nI h, nI m, f_choices, g_forks &&& 31, pj_nF O, G, a_faultBits, a_heightBits, a_kindBits, a_leastSteps, a_queue, a_queueSteps, a_reached, a_kindStack, a_kindLocals, a_stack, a_locals, a_fields) → wpX_carryOut post (nI mh, nI pl, nI n, f_faulty, f_queued, f_kindHeight, 1, nI p, nI h, nI m, f_choices, g_forks &&& 31, pj_nF O, G, a_faultBits, a_heightBits, a_kindBits, a_leastSteps, a_queue, a_queueSteps, a_reached, a_kindStack, a_kindLocals, a_stack, a_locals, a_fields)) ∨
     (¬ (O p = 1 ∧ pl ≤ m) ∧
      ((∀ post : Int32 → SX → Prop, post 1 (nI mh, nI pl, nI n, f_faulty, f_queued, f_kindHeight, 2, nI p, nI h, nI m, f_choices, g_forks &&& 31, pj_nF O, G, a_faultBits, a_heightBits, a_kindBits, a_leastSteps, a_queue, a_queueSteps, a_reached, a_kindStack, a_kindLocals, a_stack, a_locals, a_fields) → wpX_carryOut post (nI mh, nI pl, nI n, f_faulty, f_queued, f_kindHeight, 1, nI p, nI h, nI m, f_choices, g_forks &&& 31, pj_nF O, G, a_faultBits, a_heightBits, a_kindBits, a_leastSteps, a_queue, a_queueSteps, a_reached, a_kindStack, a_kindLocals, a_stack, a_locals, a_fields)) ∧
       (∀ post : SY → Prop, post (nI mh, nI pl, nI n, 2, nI p, nI h, nI m, g_forks, f_choices, pj_nF O, G, d_reached, d_fresh, d_coming, d_dist, a_stack, d_locals, a_fields) → wpY_carryOut post (nI mh, nI pl, nI n, 1, nI p, nI h, nI m, g_forks, f_choices, pj_nF O, G, d_reached, d_fresh, d_coming, d_dist, a_stack, d_locals, a_fields) (nI (O p)) (G p)))) ∨
     (¬ (O p = 1 ∧ pl ≤ m) ∧ ∃ p' h' m' yf sta lo yl fie, h' ≤ 4 ∧ m' ≤ pl ∧ lo 0 = yl 0 ∧ lo 1 = yl 1 ∧ pj_T n mh O G p' h' m' sta lo ∧
       (∀ post : Int32 → SX → Prop, post 1 (nI mh, nI pl, nI n, f_faulty, f_queued, f_kindHeight, 1, nI p', nI h', nI m', f_choices, yf &&& 31, pj_nF O, G, a_faultBits, a_heightBits, a_kindBits, a_leastSteps, a_queue, a_queueSteps, a_reached, a_kindStack, a_kindLocals, sta, lo, fie) → wpX_carryOut post (nI mh, nI pl, nI n, f_faulty, f_queued, f_kindHeight, 1, nI p, nI h, nI m, f_choices, g_forks &&& 31, pj_nF O, G, a_faultBits, a_heightBits, a_kindBits, a_leastSteps, a_queue, a_queueSteps, a_reached, a_kindStack, a_kindLocals, a_stack, a_locals, a_fields)) ∧
       (∀ post : SY → Prop, post (nI mh, nI pl, nI n, 1, nI p', nI h', nI m', yf, f_choices, pj_nF O, G, d_reached, d_fresh, d_coming, d_dist, sta, yl, fie) → wpY_carryOut post (nI mh, nI pl, nI n, 1, nI p, nI h, nI m, g_forks, f_choices, pj_nF O, G, d_reached, d_fresh, d_coming, d_dist, a_stack, d_locals, a_fields) (nI (O p)) (G p)))) := by
  obtain ⟨hS, s, ⟨k, hD⟩, TV, TL⟩ := T
  have hl := pj_Dlt W _ _ _ hD
  have hp := hl.1
  have hs := hl.2
  have hn := W.1
  have m4 := W.2.2.1
  have ho := W.2.2.2.1 p hp
  obtain ⟨sk0, kb0, lv0⟩ := pj_fl0 (hS p s ⟨k, hD⟩)
  obtain ⟨k1, k2⟩ := pj_sk0 sk0
  have lv := of_decide_eq_false lv0
  have next : O p ≠ 10 → O p ≠ 13 → p + 1 < n := fun a b => Nat.lt_of_not_le (fun z => lv (Or.inr ⟨a, b, z⟩))
  have RcS : ∀ q, q < n → (((O p = 10 ∨ O p = 11) ∧ G p = nI q) ∨ (O p ≠ 10 ∧ O p ≠ 13 ∧ q = p + 1)) → pj_Rc n mh O G q (pj_ch (O p) (decide (G p = 0)) s) := fun q hq h => ⟨k + 1, p, s, hD, hq, sk0, rfl, h⟩
  have mkT : ∀ q h' m' sta lo, q < n → (((O p = 10 ∨ O p = 11) ∧ G p = nI q) ∨ (O p ≠ 10 ∧ O p ≠ 13 ∧ q = p + 1)) → pj_TV (pj_chv (O p) (decide (G p = 0)) (s / 9) (s / 3 % 3) (s % 3)) h' m' sta → pj_TL (pj_cha (O p) (decide (G p = 0)) (s / 9) (s / 3 % 3)) (pj_chb (O p) (decide (G p = 0)) (s / 9) (s % 3)) m' lo → pj_T n mh O G q h' m' sta lo := fun q h' m' sta lo hq hst a b => by
    refine ⟨hS, _, RcS q hq hst, ?_, ?_⟩
    · rw [pj_ch_v.1]
      exact a
    · rw [pj_ch_v.2.1, pj_ch_v.2.2]
      exact b
  refine ⟨hp, ho, ?_⟩
  by_cases ex : O p = 1 ∧ pl ≤ m
  · exact Or.inl ⟨ex.1, ex.2, fun post K => mm_X hn hp (fun _ _ => K) pl8 (by omega) (fun z => absurd ex z) ho⟩
  · by_cases st : O p = 13
    · refine Or.inr (Or.inl ⟨ex, fun post K => mm_X hn hp (fun a b => absurd ⟨a, b⟩ ex) pl8 (by omega) (fun _ => ?_) ho, fun post K => ?_⟩)
      · rw [st]
        exact br_t (by decide) K
      · rw [st]
        unfold wpY_carryOut
        refine nm_e (my_need (by omega) ?_)
        refine br_f (by decide) (br_t (by decide) ?_)
        unfold wY_carryOut_33
        refine my_need (by omega) ?_
        refine br_f (by decide) ?_
        unfold wY_carryOut_48
        (repeat (first | refine br_t (by decide) ?_ | refine br_f (by decide) ?_))
        exact K
    · refine Or.inr (Or.inr ⟨ex, ?_⟩)
      by_cases o10 : O p = 10
      · have inr : ∃ j, j < n ∧ G p = nI j := by
          rcases pk_ix (G p) (n := n) (by omega) with z | z | z
          · exact absurd (Or.inl ⟨Or.inl o10, Or.inl z⟩) lv
          · exact absurd (Or.inl ⟨Or.inl o10, Or.inr z⟩) lv
          · exact z
        obtain ⟨j, hj, ej⟩ := inr
        have T' := mkT j h m a_stack a_locals hj (Or.inl ⟨Or.inl o10, ej⟩) (by rw [o10]; exact TV) (by rw [o10]; exact TL)
        refine ⟨j, h, m, g_forks, a_stack, a_locals, d_locals, a_fields, h4, hm, l0, l1, T', fun post K => mm_X hn hp (fun a b => absurd ⟨a, b⟩ ex) pl8 (by omega) (fun _ => ?_) ho, fun post K => ?_⟩
        · rw [o10, ej]
          refine br_f (by decide) (mx_nop (Or.inl rfl) rfl h4 (br_t (by decide) (br_f (by decide) K)))
        · rw [o10, ej]
          refine my_co0 (by omega) rfl rfl ?_
          unfold wY_carryOut_48
          (repeat (first | refine br_t (by decide) ?_ | refine br_f (by decide) ?_))
          exact K
      · by_cases o11 : O p = 11
        · have inr : ∃ j, j < n ∧ G p = nI j := by
            rcases pk_ix (G p) (n := n) (by omega) with z | z | z
            · exact absurd (Or.inl ⟨Or.inr o11, Or.inl z⟩) lv
            · exact absurd (Or.inl ⟨Or.inr o11, Or.inr z⟩) lv
            · exact z
          obtain ⟨j, hj, ej⟩ := inr
          have hp1 := next o10 st
          obtain ⟨t, ht, et⟩ := pk_andE g_forks (m := 31) 5 (by decide)
          have ht' : t < 32 := ht
          by_cases c : bt f_choices t = true
          · have T' := mkT j h m a_stack a_locals hj (Or.inl ⟨Or.inr o11, ej⟩) (by rw [o11]; exact TV) (by rw [o11]; exact TL)
            refine ⟨j, h, m, g_forks + 1, a_stack, a_locals, d_locals, a_fields, h4, hm, l0, l1, T', fun post K => mm_X hn hp (fun a b => absurd ⟨a, b⟩ ex) pl8 (by omega) (fun _ => ?_) ho, fun post K => ?_⟩
            · rw [o11, ej]
              refine br_f (by decide) (mx_nop (Or.inr rfl) rfl h4 (br_f (by decide) (br_t (by decide) ?_)))
              unfold wpX_takeChoice
              refine br_t ?_ (nm_r (pj_fork g_forks) ⟨rfl, br_f (by decide) (br_f (by decide) K)⟩)
              rw [et]
              exact (pj_ubit _ ht').mpr c
            · rw [o11, ej]
              refine my_co0 (by omega) rfl rfl ?_
              unfold wY_carryOut_48
              (repeat (first | refine br_t (by decide) ?_ | refine br_f (by decide) ?_))
              refine br_t ?_ (nm_e K)
              rw [et]
              exact (pj_bit _ ht').mpr c
          · have T' := mkT (p + 1) h m a_stack a_locals hp1 (Or.inr ⟨o10, st, rfl⟩) (by rw [o11]; exact TV) (by rw [o11]; exact TL)
            refine ⟨p + 1, h, m, g_forks + 1, a_stack, a_locals, d_locals, a_fields, h4, hm, l0, l1, T', fun post K => mm_X hn hp (fun a b => absurd ⟨a, b⟩ ex) pl8 (by omega) (fun _ => ?_) ho, fun post K => ?_⟩
            · rw [o11, ej]
              refine br_f (by decide) (mx_nop (Or.inr rfl) rfl h4 (br_f (by decide) (br_t (by decide) ?_)))
              unfold wpX_takeChoice
              refine br_f ?_ (nm_r (pj_fork g_forks) ⟨rfl, br_t rfl (br_t rfl (nm_r (nI_1 p) K))⟩)
              rw [et]
              exact fun z => c ((pj_ubit _ ht').mp z)
            · rw [o11, ej]
              refine my_co0 (by omega) rfl rfl ?_
              unfold wY_carryOut_48
              (repeat (first | refine br_t (by decide) ?_ | refine br_f (by decide) ?_))
              refine br_f ?_ (nm_e K)
              rw [et]
              exact fun z => c ((pj_bit _ ht').mp z)
        · have hp1 := next o10 st
          obtain ⟨h', m', sta, lo, yl, fie, KX, KY, q0, q1, q4, qm, qm1, qV, qL⟩ := mm_op (p := p) (mh := mh) (g := G p) (f_maxHeight := nI mh) (f_pool := nI pl) (f_length := nI n) (f_faulty := f_faulty) (f_queued := f_queued) (f_kindHeight := f_kindHeight) (f_status := 1) (f_position := nI p) (f_choices := f_choices) (f_forks := g_forks &&& 31) (a_ops := pj_nF O) (a_args := G) (a_faultBits := a_faultBits) (a_heightBits := a_heightBits) (a_kindBits := a_kindBits) (a_leastSteps := a_leastSteps) (a_queue := a_queue) (a_queueSteps := a_queueSteps) (a_reached := a_reached) (a_kindStack := a_kindStack) (a_kindLocals := a_kindLocals) (a_stack := a_stack) (a_locals := a_locals) (a_fields := a_fields) (g_greatest := nI mh) (g_poolSize := nI pl) (g_count := nI n) (g_doing := 1) (g_forks := g_forks) (g_bits := f_choices) (d_ops := pj_nF O) (d_args := G) (d_reached := d_reached) (d_fresh := d_fresh) (d_coming := d_coming) (d_dist := d_dist) (d_locals := d_locals) (o := O p) (by omega) o10 o11 (show s / 9 < 121 by omega) (show s / 3 % 3 < 3 by omega) (show s % 3 < 3 by omega) m4 k1 k2 kb0 (W.2.2.2.2 p hp) (by omega) (fun z => by omega) TV TL l0 l1
          refine ⟨p + 1, h', m', g_forks, sta, lo, yl, fie, q4, ?_, q0, q1, mkT (p + 1) h' m' sta lo hp1 (Or.inr ⟨o10, st, rfl⟩) qV qL, fun post K => mm_X hn hp (fun a b => absurd ⟨a, b⟩ ex) pl8 (by omega) (fun _ => ?_) ho, fun post K => KY post K⟩
          · by_cases e1 : O p = 1
            · rw [qm1 e1]; omega
            · rw [qm e1]; exact hm
          · have n13 : ¬ nI (O p) = 13 := fun z => st ((nI_eq (by omega) (by omega)).mp z)
            have n10 : ¬ nI (O p) = 10 := fun z => o10 ((nI_eq (by omega) (by omega)).mp z)
            have n11 : ¬ nI (O p) = 11 := fun z => o11 ((nI_eq (by omega) (by omega)).mp z)
            refine br_f n13 (KX _ (br_f n10 (br_f n11 (br_t rfl (nm_r (nI_1 p) K)))))
end
