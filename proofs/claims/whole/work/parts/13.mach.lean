/-! the machine: one operation on both sides -/
theorem pj_TVpush {v h m k : Nat} {x : Int32} {sta : Nat → Int32} (t : pj_TV v h m sta) (hv : v < 40) (hk : k < 3) (hx : k = 1 → ∃ j, j < m ∧ x = nI j) : pj_TV (v * 3 + k + 1) (h + 1) m (upd sta h x) := by
  obtain ⟨rfl, ht⟩ := t
  have h4 := pj_hg4 hv
  obtain ⟨e1, e2, e3⟩ := pj_psh v hv k hk
  refine ⟨e1.symm, fun i hi hd => ?_⟩
  rcases Nat.lt_or_ge i (pj_hg v) with h1 | h1
  · rw [e3 i (by omega) h1] at hd
    rw [pk_un (by omega)]
    exact ht i h1 hd
  · have e : i = pj_hg v := by omega
    subst e
    rw [e2] at hd
    rw [pk_us]
    exact hx hd
theorem pj_TVpos {v h m : Nat} {sta : Nat → Int32} (t : pj_TV v (h + 1) m sta) : 0 < v := pj_hg1 (by have := t.1; omega)
theorem pj_TVpop {v h m : Nat} {sta : Nat → Int32} (t : pj_TV v (h + 1) m sta) (hv : v < 121) : pj_TV (pj_rs v) h m sta := by
  have h0 := pj_TVpos t
  obtain ⟨e1, e2, e3⟩ := pj_pop v hv h0
  have h4 := pj_hgle v
  have t1 := t.1
  have eh : h = pj_hg ((v - 1) / 3) := by omega
  refine ⟨eh, fun i hi hd => ?_⟩
  have hd' : pj_dg ((v - 1) / 3) i = 1 := hd
  rw [e3 i (by omega) (by omega)] at hd'
  exact t.2 i (by omega) hd'
theorem pj_TVtop {v h m : Nat} {sta : Nat → Int32} (t : pj_TV v (h + 1) m sta) (hv : v < 121) (ht : pj_tp v = 1) : ∃ j, j < m ∧ sta h = nI j := by
  have h0 := pj_TVpos t
  obtain ⟨e1, e2, e3⟩ := pj_pop v hv h0
  have t1 := t.1
  have e : pj_hg v - 1 = h := by omega
  rw [e] at e2
  exact t.2 h (by omega) (e2.trans ht)
theorem pj_TVm {v h m m' : Nat} {sta : Nat → Int32} (t : pj_TV v h m sta) (hm : m ≤ m') : pj_TV v h m' sta := ⟨t.1, fun i hi hd => by
  obtain ⟨j, hj, e⟩ := t.2 i hi hd
  exact ⟨j, by omega, e⟩⟩
theorem pj_TLm {a b m m' : Nat} {lo : Nat → Int32} (t : pj_TL a b m lo) (hm : m ≤ m') : pj_TL a b m' lo := ⟨fun h => by
  obtain ⟨j, hj, e⟩ := t.1 h
  exact ⟨j, by omega, e⟩, fun h => by
  obtain ⟨j, hj, e⟩ := t.2 h
  exact ⟨j, by omega, e⟩⟩
theorem pj_updself (f : Nat → Int32) (k : Nat) : upd f k (f k) = f := by
  funext j
  by_cases e : j = k
  · subst e; rw [pk_us]
  · rw [pk_un e]
section
variable {f_maxHeight f_pool f_length f_faulty f_queued f_kindHeight f_status f_position f_height f_records f_choices f_forks : Int32} {a_ops a_args a_faultBits a_heightBits a_kindBits a_leastSteps a_queue a_queueSteps a_reached a_kindStack a_kindLocals a_stack a_locals a_fields : Nat → Int32}
theorem mx_pushCell {post : SX → Prop} {h : Nat} {x : Int32} (hh : f_height = nI h) (h4 : h < 4) (H : post (f_maxHeight, f_pool, f_length, f_faulty, f_queued, f_kindHeight, f_status, f_position, nI (h + 1), f_records, f_choices, f_forks, a_ops, a_args, a_faultBits, a_heightBits, a_kindBits, a_leastSteps, a_queue, a_queueSteps, a_reached, a_kindStack, a_kindLocals, upd a_stack h x, a_locals, a_fields)) : wpX_pushCell post (f_maxHeight, f_pool, f_length, f_faulty, f_queued, f_kindHeight, f_status, f_position, f_height, f_records, f_choices, f_forks, a_ops, a_args, a_faultBits, a_heightBits, a_kindBits, a_leastSteps, a_queue, a_queueSteps, a_reached, a_kindStack, a_kindLocals, a_stack, a_locals, a_fields) x := by
  subst hh
  refine br_f (nI_ge (b := 4) h4 (by decide)) ⟨vp_in_nI h4 (by decide), ?_⟩
  intro a ea b eb
  subst ea
  subst eb
  rw [nI_clamp (by omega), nI_1]
  exact H
theorem mx_dropCells {post : SX → Prop} {h c : Nat} {x : Int32} (hh : f_height = nI (h + c)) (hx : x = nI c) (h4 : h + c ≤ 4) (H : post (f_maxHeight, f_pool, f_length, f_faulty, f_queued, f_kindHeight, f_status, f_position, nI h, f_records, f_choices, f_forks, a_ops, a_args, a_faultBits, a_heightBits, a_kindBits, a_leastSteps, a_queue, a_queueSteps, a_reached, a_kindStack, a_kindLocals, a_stack, a_locals, a_fields)) : wpX_dropCells post (f_maxHeight, f_pool, f_length, f_faulty, f_queued, f_kindHeight, f_status, f_position, f_height, f_records, f_choices, f_forks, a_ops, a_args, a_faultBits, a_heightBits, a_kindBits, a_leastSteps, a_queue, a_queueSteps, a_reached, a_kindStack, a_kindLocals, a_stack, a_locals, a_fields) x := by
  subst hh
  subst hx
  refine pk_le (h + c) c (fun e => ?_) (fun e => ?_)
  · have e2 : h = 0 := by omega
    rw [e2] at H
    exact H
  · intro b eb
    subst eb
    rw [pk_sub (by omega), Nat.add_sub_cancel]
    exact H
theorem mx_cb0 {post : Int32 → Prop} {h : Nat} (hh : f_height = nI h) (h4 : h ≤ 4) (H : ∀ r, (∀ h', h = h' + 1 → r = a_stack h') → post r) : wpX_cellBelowTop post (f_maxHeight, f_pool, f_length, f_faulty, f_queued, f_kindHeight, f_status, f_position, f_height, f_records, f_choices, f_forks, a_ops, a_args, a_faultBits, a_heightBits, a_kindBits, a_leastSteps, a_queue, a_queueSteps, a_reached, a_kindStack, a_kindLocals, a_stack, a_locals, a_fields) 0 := by
  subst hh
  cases h with
  | zero => exact nm_e (br_t (by decide) (H 0 (fun h' e => by omega)))
  | succ h =>
    refine nm_r (e' := nI h) ?_ ?_
    · rw [nI_pred]
      exact Int32.sub_zero _
    · refine br_f (nI_pos (by omega)) (br_f (nI_ge (b := 4) (by omega) (by decide)) ⟨vp_in_nI (by omega) (by decide), ?_⟩)
      rw [nI_clamp (by omega)]
      exact H _ (fun h' e => by rw [show h' = h by omega])
theorem mx_cb1 {post : Int32 → Prop} {h : Nat} (hh : f_height = nI h) (h4 : h ≤ 4) (H : ∀ r, (∀ h', h = h' + 2 → r = a_stack h') → post r) : wpX_cellBelowTop post (f_maxHeight, f_pool, f_length, f_faulty, f_queued, f_kindHeight, f_status, f_position, f_height, f_records, f_choices, f_forks, a_ops, a_args, a_faultBits, a_heightBits, a_kindBits, a_leastSteps, a_queue, a_queueSteps, a_reached, a_kindStack, a_kindLocals, a_stack, a_locals, a_fields) 1 := by
  subst hh
  cases h with
  | zero => exact nm_e (br_t (by decide) (H 0 (fun h' e => by omega)))
  | succ h =>
    cases h with
    | zero => exact nm_e (br_t (by decide) (H 0 (fun h' e => by omega)))
    | succ h =>
      refine nm_r (e' := nI h) ?_ ?_
      · rw [nI_pred, nI_pred]
      · refine br_f (nI_pos (by omega)) (br_f (nI_ge (b := 4) (by omega) (by decide)) ⟨vp_in_nI (by omega) (by decide), ?_⟩)
        rw [nI_clamp (by omega)]
        exact H _ (fun h' e => by rw [show h' = h by omega])
theorem mx_makeRecord {post : SX → Prop} {m : Nat} (hr : f_records = nI m) (m8 : m < 8) (H : post (f_maxHeight, f_pool, f_length, f_faulty, f_queued, f_kindHeight, f_status, f_position, f_height, nI (m + 1), f_choices, f_forks, a_ops, a_args, a_faultBits, a_heightBits, a_kindBits, a_leastSteps, a_queue, a_queueSteps, a_reached, a_kindStack, a_kindLocals, a_stack, a_locals, upd a_fields m 0)) : wpX_makeRecord post (f_maxHeight, f_pool, f_length, f_faulty, f_queued, f_kindHeight, f_status, f_position, f_height, f_records, f_choices, f_forks, a_ops, a_args, a_faultBits, a_heightBits, a_kindBits, a_leastSteps, a_queue, a_queueSteps, a_reached, a_kindStack, a_kindLocals, a_stack, a_locals, a_fields) := by
  subst hr
  refine br_f (nI_ge (b := 8) m8 (by decide)) ⟨vp_in_nI m8 (by decide), ?_⟩
  intro a ea b eb
  subst ea
  subst eb
  rw [nI_clamp (by omega), nI_1]
  exact H
theorem mx_isRecord {post : Int32 → Prop} {m j : Nat} (hr : f_records = nI m) (hj : j < m) (m8 : m ≤ 8) (H : post 1) : wpX_isRecord post (f_maxHeight, f_pool, f_length, f_faulty, f_queued, f_kindHeight, f_status, f_position, f_height, f_records, f_choices, f_forks, a_ops, a_args, a_faultBits, a_heightBits, a_kindBits, a_leastSteps, a_queue, a_queueSteps, a_reached, a_kindStack, a_kindLocals, a_stack, a_locals, a_fields) (nI j) := by
  subst hr
  exact br_f (nI_pos (by omega)) (br_f (nI_ge hj (by omega)) (br_f (nI_ge (b := 8) (by omega) (by decide)) H))
theorem mx_pushField {post : SX → Prop} {h m j : Nat} (hh : f_height = nI h) (h4 : h < 4) (hr : f_records = nI m) (hj : j < m) (m8 : m ≤ 8) (H : post (f_maxHeight, f_pool, f_length, f_faulty, f_queued, f_kindHeight, f_status, f_position, nI (h + 1), f_records, f_choices, f_forks, a_ops, a_args, a_faultBits, a_heightBits, a_kindBits, a_leastSteps, a_queue, a_queueSteps, a_reached, a_kindStack, a_kindLocals, upd a_stack h (a_fields j), a_locals, a_fields)) : wpX_pushField post (f_maxHeight, f_pool, f_length, f_faulty, f_queued, f_kindHeight, f_status, f_position, f_height, f_records, f_choices, f_forks, a_ops, a_args, a_faultBits, a_heightBits, a_kindBits, a_leastSteps, a_queue, a_queueSteps, a_reached, a_kindStack, a_kindLocals, a_stack, a_locals, a_fields) (nI j) := by
  unfold wpX_pushField
  refine mx_isRecord hr hj m8 (br_f (by decide) ⟨vp_in_nI (by omega) (by decide), ?_⟩)
  rw [nI_clamp (by omega)]
  exact mx_pushCell hh h4 H
theorem mx_writeField {post : SX → Prop} {m j : Nat} {x : Int32} (hr : f_records = nI m) (hj : j < m) (m8 : m ≤ 8) (H : post (f_maxHeight, f_pool, f_length, f_faulty, f_queued, f_kindHeight, f_status, f_position, f_height, f_records, f_choices, f_forks, a_ops, a_args, a_faultBits, a_heightBits, a_kindBits, a_leastSteps, a_queue, a_queueSteps, a_reached, a_kindStack, a_kindLocals, a_stack, a_locals, upd a_fields j x)) : wpX_writeField post (f_maxHeight, f_pool, f_length, f_faulty, f_queued, f_kindHeight, f_status, f_position, f_height, f_records, f_choices, f_forks, a_ops, a_args, a_faultBits, a_heightBits, a_kindBits, a_leastSteps, a_queue, a_queueSteps, a_reached, a_kindStack, a_kindLocals, a_stack, a_locals, a_fields) (nI j) x := by
  unfold wpX_writeField
  refine mx_isRecord hr hj m8 (br_f (by decide) ⟨vp_in_nI (by omega) (by decide), nm_e ?_⟩)
  rw [nI_clamp (by omega)]
  exact H
end
section
variable {g_greatest g_poolSize g_count g_doing g_pc g_tall g_made g_forks g_bits : Int32} {d_ops d_args d_reached d_fresh d_coming d_dist d_stack d_locals d_fields : Nat → Int32}
theorem my_pop {post : Int32 → SY → Prop} {h : Nat} (hh : g_tall = nI (h + 1)) (h4 : h < 4) (H : post (d_stack h) (g_greatest, g_poolSize, g_count, g_doing, g_pc, nI h, g_made, g_forks, g_bits, d_ops, d_args, d_reached, d_fresh, d_coming, d_dist, d_stack, d_locals, d_fields)) : wpY_pop post (g_greatest, g_poolSize, g_count, g_doing, g_pc, g_tall, g_made, g_forks, g_bits, d_ops, d_args, d_reached, d_fresh, d_coming, d_dist, d_stack, d_locals, d_fields) := by
  subst hh
  refine br_t (nI_lt (a := 0) (by omega) (by omega)) (nm_r (nI_pred h) ?_)
  rw [pj_and3 h4, nI_clamp (by omega)]
  exact ⟨vp_in_nI h4 (by decide), H⟩
theorem my_push {post : SY → Prop} {h : Nat} {x : Int32} (hh : g_tall = nI h) (h4 : h < 4) (H : post (g_greatest, g_poolSize, g_count, g_doing, g_pc, nI (h + 1), g_made, g_forks, g_bits, d_ops, d_args, d_reached, d_fresh, d_coming, d_dist, upd d_stack h x, d_locals, d_fields)) : wpY_push post (g_greatest, g_poolSize, g_count, g_doing, g_pc, g_tall, g_made, g_forks, g_bits, d_ops, d_args, d_reached, d_fresh, d_coming, d_dist, d_stack, d_locals, d_fields) x := by
  subst hh
  refine br_f (nI_ge (b := 4) h4 (by decide)) ?_
  rw [pj_and3 h4, nI_clamp (by omega), nI_1]
  exact ⟨vp_in_nI h4 (by decide), nm_e (nm_e H)⟩
theorem my_co0 {post : SY → Prop} {o p : Nat} {g : Int32} (ho : o ≤ 13) (hnd : pj_nd o = 0) (hp : g_pc = nI p) (H : wY_carryOut_48 post (nI o) g 0 0 (nI (p + 1)) g_greatest g_poolSize g_count g_doing g_pc g_tall g_made g_forks g_bits d_ops d_args d_reached d_fresh d_coming d_dist d_stack d_locals d_fields) : wpY_carryOut post (g_greatest, g_poolSize, g_count, g_doing, g_pc, g_tall, g_made, g_forks, g_bits, d_ops, d_args, d_reached, d_fresh, d_coming, d_dist, d_stack, d_locals, d_fields) (nI o) g := by
  unfold wpY_carryOut
  refine nm_r (e' := nI (p + 1)) (by rw [hp, nI_1]) (my_need ho ?_)
  rw [hnd]
  refine br_t (by decide) ?_
  unfold wY_carryOut_33
  refine my_need ho ?_
  rw [hnd]
  exact br_f (by decide) H
theorem my_co1 {post : SY → Prop} {o p h : Nat} {g : Int32} (ho : o ≤ 12) (hnd : pj_nd o = 1) (hp : g_pc = nI p) (hh : g_tall = nI (h + 1)) (h4 : h < 4) (H : wY_carryOut_48 post (nI o) g (d_stack h) 0 (nI (p + 1)) g_greatest g_poolSize g_count g_doing g_pc (nI h) g_made g_forks g_bits d_ops d_args d_reached d_fresh d_coming d_dist d_stack d_locals d_fields) : wpY_carryOut post (g_greatest, g_poolSize, g_count, g_doing, g_pc, g_tall, g_made, g_forks, g_bits, d_ops, d_args, d_reached, d_fresh, d_coming, d_dist, d_stack, d_locals, d_fields) (nI o) g := by
  unfold wpY_carryOut
  refine nm_r (e' := nI (p + 1)) (by rw [hp, nI_1]) (my_need (by omega) ?_)
  rw [hnd]
  refine br_f (by decide) (pk_eq o 13 (fun z => by omega) (fun _ => my_pop hh h4 ?_))
  unfold wY_carryOut_33
  refine my_need (by omega) ?_
  rw [hnd]
  exact br_f (by decide) H
theorem my_co2 {post : SY → Prop} {o p h : Nat} {g : Int32} (ho : o ≤ 12) (hnd : pj_nd o = 2) (hp : g_pc = nI p) (hh : g_tall = nI (h + 2)) (h4 : h + 1 < 4) (H : wY_carryOut_48 post (nI o) g (d_stack (h + 1)) (d_stack h) (nI (p + 1)) g_greatest g_poolSize g_count g_doing g_pc (nI h) g_made g_forks g_bits d_ops d_args d_reached d_fresh d_coming d_dist d_stack d_locals d_fields) : wpY_carryOut post (g_greatest, g_poolSize, g_count, g_doing, g_pc, g_tall, g_made, g_forks, g_bits, d_ops, d_args, d_reached, d_fresh, d_coming, d_dist, d_stack, d_locals, d_fields) (nI o) g := by
  unfold wpY_carryOut
  refine nm_r (e' := nI (p + 1)) (by rw [hp, nI_1]) (my_need (by omega) ?_)
  rw [hnd]
  refine br_f (by decide) (pk_eq o 13 (fun z => by omega) (fun _ => my_pop hh h4 ?_))
  unfold wY_carryOut_33
  refine my_need (by omega) ?_
  rw [hnd]
  exact br_t (by decide) (my_pop rfl (by omega) H)
end
section
variable {f_maxHeight f_pool f_length f_faulty f_queued f_kindHeight f_status f_position f_height f_records f_choices f_forks : Int32} {a_ops a_args a_faultBits a_heightBits a_kindBits a_leastSteps a_queue a_queueSteps a_reached a_kindStack a_kindLocals a_stack a_locals a_fields : Nat → Int32} {g_greatest g_poolSize g_count g_doing g_pc g_tall g_made g_forks g_bits : Int32} {d_ops d_args d_reached d_fresh d_coming d_dist d_stack d_locals d_fields : Nat → Int32}
theorem mm_op {o v a b m h p mh : Nat} {g : Int32} (ho : o ≤ 12) (h10 : o ≠ 10) (h11 : o ≠ 11) (hv : v < 121) (ha : a < 3) (hb : b < 3) (mh4 : mh ≤ 4) (k1 : pj_nd o ≤ pj_hg v) (k2 : (o = 0 ∨ o = 1 ∨ o = 3 ∨ o = 8) → pj_hg v < mh) (hkb : pj_kb o (pj_tp v) (pj_tp (pj_rs v)) = false) (hg : (o = 8 ∨ o = 9) → g = 0 ∨ g = 1) (hm : m ≤ 8) (hm1 : o = 1 → m < 8)
    (TV : pj_TV v h m a_stack) (TL : pj_TL a b m a_locals) (l0 : a_locals 0 = d_locals 0) (l1 : a_locals 1 = d_locals 1) :
    ∃ h' m' sta lo yl fie,
      (∀ post : SX → Prop, post (f_maxHeight, f_pool, f_length, f_faulty, f_queued, f_kindHeight, f_status, f_position, nI h', nI m', f_choices, f_forks, a_ops, a_args, a_faultBits, a_heightBits, a_kindBits, a_leastSteps, a_queue, a_queueSteps, a_reached, a_kindStack, a_kindLocals, sta, lo, fie) → wpX_changeCells post (f_maxHeight, f_pool, f_length, f_faulty, f_queued, f_kindHeight, f_status, f_position, nI h, nI m, f_choices, f_forks, a_ops, a_args, a_faultBits, a_heightBits, a_kindBits, a_leastSteps, a_queue, a_queueSteps, a_reached, a_kindStack, a_kindLocals, a_stack, a_locals, a_fields) (nI o) g) ∧
      (∀ post : SY → Prop, post (g_greatest, g_poolSize, g_count, g_doing, nI (p + 1), nI h', nI m', g_forks, g_bits, d_ops, d_args, d_reached, d_fresh, d_coming, d_dist, sta, yl, fie) → wpY_carryOut post (g_greatest, g_poolSize, g_count, g_doing, nI p, nI h, nI m, g_forks, g_bits, d_ops, d_args, d_reached, d_fresh, d_coming, d_dist, a_stack, d_locals, a_fields) (nI o) g) ∧
      lo 0 = yl 0 ∧ lo 1 = yl 1 ∧ h' ≤ 4 ∧ (o ≠ 1 → m' = m) ∧ (o = 1 → m' = m + 1) ∧ pj_TV (pj_chv o (decide (g = 0)) v a b) h' m' sta ∧ pj_TL (pj_cha o (decide (g = 0)) v a) (pj_chb o (decide (g = 0)) v b) m' lo := by
  have eh := TV.1
  have h4 : h ≤ 4 := by have := pj_hgle v; omega
  have h40 : (o = 0 ∨ o = 1 ∨ o = 3 ∨ o = 8) → v < 40 ∧ h < 4 := fun q => ⟨pj_hg40 (by have := k2 q; omega), by have := k2 q; omega⟩
  have rs40 := pj_rs40 hv
  have rs121 := pj_rs121 hv
  have rr40 := pj_rs40 rs121
  have tp3 := pj_tp3 v
  have tr3 := pj_tp3 (pj_rs v)
  rw [← eh] at k1
  rcases pj_o14 (show o ≤ 13 by omega) with rfl | rfl | rfl | rfl | rfl | rfl | rfl | rfl | rfl | rfl | rfl | rfl | rfl | rfl
  · obtain ⟨v40, hl⟩ := h40 (by omega)
    refine ⟨h + 1, m, upd a_stack h g, a_locals, d_locals, a_fields, fun post K => ?_, fun post K => ?_, l0, l1, by omega, fun _ => rfl, fun z => by omega, pj_TVpush TV v40 (k := 0) (by omega) (fun z => by omega), TL⟩
    · unfold wpX_changeCells
      refine mx_cb0 rfl h4 (fun r1 t1 => mx_cb1 rfl h4 (fun r2 t2 => ?_))
      (repeat (first | refine br_t (by decide) ?_ | refine br_f (by decide) ?_))
      exact mx_pushCell rfl hl K
    · refine my_co0 (by omega) rfl rfl ?_
      unfold wY_carryOut_48
      (repeat (first | refine br_t (by decide) ?_ | refine br_f (by decide) ?_))
      exact my_push rfl hl K
  · obtain ⟨v40, hl⟩ := h40 (by omega)
    have m8 := hm1 rfl
    refine ⟨h + 1, m + 1, upd a_stack h (nI m), a_locals, d_locals, upd a_fields m 0, fun post K => ?_, fun post K => ?_, l0, l1, by omega, fun z => by omega, fun _ => rfl, pj_TVpush (pj_TVm TV (by omega)) v40 (k := 1) (by omega) (fun _ => ⟨m, by omega, rfl⟩), pj_TLm TL (by omega)⟩
    · unfold wpX_changeCells
      refine mx_cb0 rfl h4 (fun r1 t1 => mx_cb1 rfl h4 (fun r2 t2 => ?_))
      (repeat (first | refine br_t (by decide) ?_ | refine br_f (by decide) ?_))
      exact mx_pushCell rfl hl (mx_makeRecord rfl m8 K)
    · refine my_co0 (by omega) rfl rfl ?_
      unfold wY_carryOut_48
      (repeat (first | refine br_t (by decide) ?_ | refine br_f (by decide) ?_))
      rw [pj_and7 m8]
      refine ⟨vp_in_nI m8 (by decide), nm_e ?_⟩
      rw [nI_clamp (by omega)]
      exact my_push rfl hl (nm_r (nI_1 m) K)
  · obtain ⟨h1, rfl⟩ : ∃ h1, h = h1 + 1 := ⟨h - 1, by have : 1 ≤ h := k1; omega⟩
    refine ⟨h1, m, a_stack, a_locals, d_locals, a_fields, fun post K => ?_, fun post K => ?_, l0, l1, by omega, fun _ => rfl, fun z => by omega, pj_TVpop TV hv, TL⟩
    · unfold wpX_changeCells
      refine mx_cb0 rfl h4 (fun r1 t1 => mx_cb1 rfl h4 (fun r2 t2 => ?_))
      (repeat (first | refine br_t (by decide) ?_ | refine br_f (by decide) ?_))
      exact mx_dropCells (c := 1) rfl rfl h4 K
    · refine my_co1 (by omega) rfl rfl rfl (by omega) ?_
      unfold wY_carryOut_48
      (repeat (first | refine br_t (by decide) ?_ | refine br_f (by decide) ?_))
      exact K
  · obtain ⟨v40, hl⟩ := h40 (by omega)
    obtain ⟨h1, rfl⟩ : ∃ h1, h = h1 + 1 := ⟨h - 1, by have : 1 ≤ h := k1; omega⟩
    refine ⟨h1 + 1 + 1, m, upd a_stack (h1 + 1) (a_stack h1), a_locals, d_locals, a_fields, fun post K => ?_, fun post K => ?_, l0, l1, by omega, fun _ => rfl, fun z => by omega, pj_TVpush TV v40 tp3 (fun z => pj_TVtop TV hv z), TL⟩
    · unfold wpX_changeCells
      refine mx_cb0 rfl h4 (fun r1 t1 => mx_cb1 rfl h4 (fun r2 t2 => ?_))
      rw [t1 h1 rfl]
      (repeat (first | refine br_t (by decide) ?_ | refine br_f (by decide) ?_))
      exact mx_pushCell rfl hl K
    · refine my_co1 (by omega) rfl rfl rfl (by omega) ?_
      unfold wY_carryOut_48
      (repeat (first | refine br_t (by decide) ?_ | refine br_f (by decide) ?_))
      refine my_push rfl (by omega) (my_push rfl hl ?_)
      rw [pj_updself]
      exact K
  · obtain ⟨h2, rfl⟩ : ∃ h2, h = h2 + 2 := ⟨h - 2, by have : 2 ≤ h := k1; omega⟩
    refine ⟨h2 + 1 + 1, m, upd (upd a_stack h2 (a_stack (h2 + 1))) (h2 + 1) (a_stack h2), a_locals, d_locals, a_fields, fun post K => ?_, fun post K => ?_, l0, l1, by omega, fun _ => rfl, fun z => by omega, pj_TVpush (pj_TVpush (pj_TVpop (pj_TVpop TV hv) rs121) rr40 tp3 (fun z => pj_TVtop TV hv z)) (by unfold pj_rs pj_tp; omega) tr3 (fun z => pj_TVtop (pj_TVpop TV hv) rs121 z), TL⟩
    · unfold wpX_changeCells
      refine mx_cb0 rfl h4 (fun r1 t1 => mx_cb1 rfl h4 (fun r2 t2 => ?_))
      rw [t1 (h2 + 1) rfl, t2 h2 rfl]
      (repeat (first | refine br_t (by decide) ?_ | refine br_f (by decide) ?_))
      exact mx_dropCells (c := 2) rfl rfl h4 (mx_pushCell rfl (by omega) (mx_pushCell rfl (by omega) K))
    · refine my_co2 (by omega) rfl rfl rfl (by omega) ?_
      unfold wY_carryOut_48
      (repeat (first | refine br_t (by decide) ?_ | refine br_f (by decide) ?_))
      exact my_push rfl (by omega) (my_push rfl (by omega) K)
  · obtain ⟨h2, rfl⟩ : ∃ h2, h = h2 + 2 := ⟨h - 2, by have : 2 ≤ h := k1; omega⟩
    refine ⟨h2 + 1, m, upd a_stack h2 (a_stack (h2 + 1) + a_stack h2), a_locals, d_locals, a_fields, fun post K => ?_, fun post K => ?_, l0, l1, by omega, fun _ => rfl, fun z => by omega, pj_TVpush (pj_TVpop (pj_TVpop TV hv) rs121) rr40 (k := 0) (by omega) (fun z => by omega), TL⟩
    · unfold wpX_changeCells
      refine mx_cb0 rfl h4 (fun r1 t1 => mx_cb1 rfl h4 (fun r2 t2 => ?_))
      rw [t1 (h2 + 1) rfl, t2 h2 rfl]
      (repeat (first | refine br_t (by decide) ?_ | refine br_f (by decide) ?_))
      exact mx_dropCells (c := 2) rfl rfl h4 (mx_pushCell rfl (by omega) K)
    · refine my_co2 (by omega) rfl rfl rfl (by omega) ?_
      unfold wY_carryOut_48
      (repeat (first | refine br_t (by decide) ?_ | refine br_f (by decide) ?_))
      exact my_push rfl (by omega) K
  · obtain ⟨h1, rfl⟩ : ∃ h1, h = h1 + 1 := ⟨h - 1, by have : 1 ≤ h := k1; omega⟩
    have t0 : pj_tp v = 1 := by have := of_decide_eq_false hkb; omega
    obtain ⟨j, hj, ej⟩ := pj_TVtop TV hv t0
    refine ⟨h1 + 1, m, upd a_stack h1 (a_fields j), a_locals, d_locals, a_fields, fun post K => ?_, fun post K => ?_, l0, l1, by omega, fun _ => rfl, fun z => by omega, pj_TVpush (pj_TVpop TV hv) rs40 (k := 0) (by omega) (fun z => by omega), TL⟩
    · unfold wpX_changeCells
      refine mx_cb0 rfl h4 (fun r1 t1 => mx_cb1 rfl h4 (fun r2 t2 => ?_))
      rw [t1 h1 rfl, ej]
      (repeat (first | refine br_t (by decide) ?_ | refine br_f (by decide) ?_))
      exact mx_dropCells (c := 1) rfl rfl h4 (mx_pushField rfl (by omega) rfl hj hm K)
    · refine my_co1 (by omega) rfl rfl rfl (by omega) ?_
      unfold wY_carryOut_48
      (repeat (first | refine br_t (by decide) ?_ | refine br_f (by decide) ?_))
      rw [ej, pj_and7 (by omega), nI_clamp (by omega)]
      exact ⟨vp_in_nI (by omega) (by decide), my_push rfl (by omega) K⟩
  · obtain ⟨h2, rfl⟩ : ∃ h2, h = h2 + 2 := ⟨h - 2, by have : 2 ≤ h := k1; omega⟩
    have t0 : pj_tp (pj_rs v) = 1 := by have := of_decide_eq_false hkb; omega
    obtain ⟨j, hj, ej⟩ := pj_TVtop (pj_TVpop TV hv) rs121 t0
    refine ⟨h2, m, a_stack, a_locals, d_locals, upd a_fields j (a_stack (h2 + 1)), fun post K => ?_, fun post K => ?_, l0, l1, by omega, fun _ => rfl, fun z => by omega, pj_TVpop (pj_TVpop TV hv) rs121, TL⟩
    · unfold wpX_changeCells
      refine mx_cb0 rfl h4 (fun r1 t1 => mx_cb1 rfl h4 (fun r2 t2 => ?_))
      rw [t1 (h2 + 1) rfl, t2 h2 rfl, ej]
      (repeat (first | refine br_t (by decide) ?_ | refine br_f (by decide) ?_))
      exact mx_dropCells (c := 2) rfl rfl h4 (mx_writeField rfl hj hm K)
    · refine my_co2 (by omega) rfl rfl rfl (by omega) ?_
      unfold wY_carryOut_48
      (repeat (first | refine br_t (by decide) ?_ | refine br_f (by decide) ?_))
      rw [ej, pj_and7 (by omega), nI_clamp (by omega)]
      exact ⟨vp_in_nI (by omega) (by decide), nm_e K⟩
  · obtain ⟨v40, hl⟩ := h40 (by omega)
    rcases hg (by omega) with rfl | rfl
    · refine ⟨h + 1, m, upd a_stack h (a_locals 0), a_locals, d_locals, a_fields, fun post K => ?_, fun post K => ?_, l0, l1, by omega, fun _ => rfl, fun z => by omega, pj_TVpush TV v40 (k := a) ha TL.1, TL⟩
      · unfold wpX_changeCells
        refine mx_cb0 rfl h4 (fun r1 t1 => mx_cb1 rfl h4 (fun r2 t2 => ?_))
        (repeat (first | refine br_t (by decide) ?_ | refine br_f (by decide) ?_))
        exact ⟨vp_in_iff.mpr (by decide), mx_pushCell rfl hl K⟩
      · refine my_co0 (by omega) rfl rfl ?_
        rw [l0] at K
        unfold wY_carryOut_48
        (repeat (first | refine br_t (by decide) ?_ | refine br_f (by decide) ?_))
        exact ⟨vp_in_iff.mpr (by decide), my_push rfl hl K⟩
    · refine ⟨h + 1, m, upd a_stack h (a_locals 1), a_locals, d_locals, a_fields, fun post K => ?_, fun post K => ?_, l0, l1, by omega, fun _ => rfl, fun z => by omega, pj_TVpush TV v40 (k := b) hb TL.2, TL⟩
      · unfold wpX_changeCells
        refine mx_cb0 rfl h4 (fun r1 t1 => mx_cb1 rfl h4 (fun r2 t2 => ?_))
        (repeat (first | refine br_t (by decide) ?_ | refine br_f (by decide) ?_))
        exact ⟨vp_in_iff.mpr (by decide), mx_pushCell rfl hl K⟩
      · refine my_co0 (by omega) rfl rfl ?_
        rw [l1] at K
        unfold wY_carryOut_48
        (repeat (first | refine br_t (by decide) ?_ | refine br_f (by decide) ?_))
        exact ⟨vp_in_iff.mpr (by decide), my_push rfl hl K⟩
  · obtain ⟨h1, rfl⟩ : ∃ h1, h = h1 + 1 := ⟨h - 1, by have : 1 ≤ h := k1; omega⟩
    rcases hg (by omega) with rfl | rfl
    · refine ⟨h1, m, a_stack, upd a_locals 0 (a_stack h1), upd d_locals 0 (a_stack h1), a_fields, fun post K => ?_, fun post K => ?_, by rw [pk_us, pk_us], by rw [pk_un (by decide), pk_un (by decide)]; exact l1, by omega, fun _ => rfl, fun z => by omega, pj_TVpop TV hv, ⟨fun z => by rw [pk_us]; exact pj_TVtop TV hv z, fun z => by rw [pk_un (by decide)]; exact TL.2 z⟩⟩
      · unfold wpX_changeCells
        refine mx_cb0 rfl h4 (fun r1 t1 => mx_cb1 rfl h4 (fun r2 t2 => ?_))
        rw [t1 h1 rfl]
        (repeat (first | refine br_t (by decide) ?_ | refine br_f (by decide) ?_))
        exact mx_dropCells (c := 1) rfl rfl h4 ⟨vp_in_iff.mpr (by decide), nm_e K⟩
      · refine my_co1 (by omega) rfl rfl rfl (by omega) ?_
        unfold wY_carryOut_48
        (repeat (first | refine br_t (by decide) ?_ | refine br_f (by decide) ?_))
        exact ⟨vp_in_iff.mpr (by decide), nm_e K⟩
    · refine ⟨h1, m, a_stack, upd a_locals 1 (a_stack h1), upd d_locals 1 (a_stack h1), a_fields, fun post K => ?_, fun post K => ?_, by rw [pk_un (by decide), pk_un (by decide)]; exact l0, by rw [pk_us, pk_us], by omega, fun _ => rfl, fun z => by omega, pj_TVpop TV hv, ⟨fun z => by rw [pk_un (by decide)]; exact TL.1 z, fun z => by rw [pk_us]; exact pj_TVtop TV hv z⟩⟩
      · unfold wpX_changeCells
        refine mx_cb0 rfl h4 (fun r1 t1 => mx_cb1 rfl h4 (fun r2 t2 => ?_))
        rw [t1 h1 rfl]
        (repeat (first | refine br_t (by decide) ?_ | refine br_f (by decide) ?_))
        exact mx_dropCells (c := 1) rfl rfl h4 ⟨vp_in_iff.mpr (by decide), nm_e K⟩
      · refine my_co1 (by omega) rfl rfl rfl (by omega) ?_
        unfold wY_carryOut_48
        (repeat (first | refine br_t (by decide) ?_ | refine br_f (by decide) ?_))
        exact ⟨vp_in_iff.mpr (by decide), nm_e K⟩
  · exact absurd rfl h10
  · exact absurd rfl h11
  · obtain ⟨h2, rfl⟩ : ∃ h2, h = h2 + 2 := ⟨h - 2, by have : 2 ≤ h := k1; omega⟩
    refine ⟨h2 + 1, m, upd a_stack h2 (if a_stack (h2 + 1) = a_stack h2 then 1 else 0), a_locals, d_locals, a_fields, fun post K => ?_, fun post K => ?_, l0, l1, by omega, fun _ => rfl, fun z => by omega, pj_TVpush (pj_TVpop (pj_TVpop TV hv) rs121) rr40 (k := 0) (by omega) (fun z => by omega), TL⟩
    · unfold wpX_changeCells
      refine mx_cb0 rfl h4 (fun r1 t1 => mx_cb1 rfl h4 (fun r2 t2 => ?_))
      rw [t1 (h2 + 1) rfl, t2 h2 rfl]
      (repeat (first | refine br_t (by decide) ?_ | refine br_f (by decide) ?_))
      refine mx_dropCells (c := 2) rfl rfl h4 (br_c (fun c => ?_) (fun c => ?_))
      · rw [if_pos c] at K
        exact mx_pushCell rfl (by omega) K
      · rw [if_neg c] at K
        exact mx_pushCell rfl (by omega) K
    · refine my_co2 (by omega) rfl rfl rfl (by omega) ?_
      unfold wY_carryOut_48
      (repeat (first | refine br_t (by decide) ?_ | refine br_f (by decide) ?_))
      refine br_c (fun c => ?_) (fun c => ?_)
      · rw [if_pos c] at K
        exact my_push rfl (by omega) K
      · rw [if_neg c] at K
        exact my_push rfl (by omega) K
  · omega
end
