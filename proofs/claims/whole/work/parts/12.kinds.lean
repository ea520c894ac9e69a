/-! kinds and cell -/
def pj_cf (h m : Nat) (sta lo fie : Nat → Int32) (i : Nat) : Int32 := if i < h then sta i else if i = 4 then lo 0 else if i = 5 then lo 1 else if 8 ≤ i ∧ i < 8 + m then fie (i - 8) else 0
theorem pj_neg4 {x : Int32} (h : x < 0) : x < 4 := Int32.lt_trans h (by decide)
theorem pj_neg8 {x : Int32} (h : x < 0) : x < 8 := Int32.lt_trans h (by decide)
theorem pj_n4 : (4 : Int32) = nI 4 := rfl
theorem pj_n8 : (8 : Int32) = nI 8 := rfl
theorem pj_and3 {i : Nat} (h : i < 4) : nI i &&& 3 = nI i := by rw [pk_andN (by omega) 2 (by decide), Nat.mod_eq_of_lt (by omega)]
theorem pj_and7 {i : Nat} (h : i < 8) : nI i &&& 7 = nI i := by rw [pk_andN (by omega) 3 (by decide), Nat.mod_eq_of_lt (by omega)]
theorem pj_and15 {i : Nat} (h : i < 16) : nI i &&& 15 = nI i := by rw [pk_andN (by omega) 4 (by decide), Nat.mod_eq_of_lt (by omega)]
section
variable {f_maxHeight f_pool f_length f_faulty f_queued f_kindHeight f_status f_position f_height f_records f_choices f_forks : Int32} {a_ops a_args a_faultBits a_heightBits a_kindBits a_leastSteps a_queue a_queueSteps a_reached a_kindStack a_kindLocals a_stack a_locals a_fields : Nat → Int32}
theorem mx_cell {post : Int32 → Prop} {x : Int32} {h m : Nat} (hh : f_height = nI h) (hr : f_records = nI m) (h4 : h ≤ 4) (m8 : m ≤ 8) (Hn : x < 0 → post 0) (Hi : ∀ i, x = nI i → i < 2 ^ 31 → post (pj_cf h m a_stack a_locals a_fields i)) : wpX_cell post (f_maxHeight, f_pool, f_length, f_faulty, f_queued, f_kindHeight, f_status, f_position, f_height, f_records, f_choices, f_forks, a_ops, a_args, a_faultBits, a_heightBits, a_kindBits, a_leastSteps, a_queue, a_queueSteps, a_reached, a_kindStack, a_kindLocals, a_stack, a_locals, a_fields) x := by
  subst hh hr
  by_cases h0 : x < 0
  · exact br_t h0 (br_t (pj_neg4 h0) (br_t (pj_neg8 h0) (Hn h0)))
  · obtain ⟨i, hi, rfl⟩ := nI_of h0
    have key : ∀ r, pj_cf h m a_stack a_locals a_fields i = r → post r := fun r e => by rw [← e]; exact Hi i rfl hi
    refine br_f h0 (pk_le h i (fun hge => ?_) (fun hlt => ⟨vp_in_nI (by omega) (by decide), ?_⟩))
    · have c39 : i ≠ 4 → i ≠ 5 → wX_cell_39 post (nI i) f_maxHeight f_pool f_length f_faulty f_queued f_kindHeight f_status f_position (nI h) (nI m) f_choices f_forks a_ops a_args a_faultBits a_heightBits a_kindBits a_leastSteps a_queue a_queueSteps a_reached a_kindStack a_kindLocals a_stack a_locals a_fields := fun i4 i5 => by
        refine pk_lt i 8 (fun h8 => key 0 ?_) (fun h8 => ?_)
        · unfold pj_cf
          rw [if_neg (by omega), if_neg i4, if_neg i5, if_neg (by omega)]
        · rw [pj_n8, pk_sub h8]
          refine pk_le m (i - 8) (fun hm => key 0 ?_) (fun hm => ⟨vp_in_nI (by omega) (by decide), key _ ?_⟩)
          · unfold pj_cf
            rw [if_neg (by omega), if_neg i4, if_neg i5, if_neg (by omega)]
          · rw [nI_clamp (by omega)]
            unfold pj_cf
            rw [if_neg (by omega), if_neg i4, if_neg i5, if_pos (by omega)]
      refine pk_lt i 4 (fun hl => c39 (by omega) (by omega)) (fun h4' => pk_le 6 i (fun h6 => c39 (by omega) (by omega)) (fun h6 => ?_))
      rw [pj_n4, pk_sub h4']
      refine ⟨vp_in_nI (by omega) (by decide), key _ ?_⟩
      rw [nI_clamp (by omega)]
      unfold pj_cf
      rw [if_neg (by omega)]
      by_cases e : i = 4
      · subst e
        rw [if_pos rfl]
      · have e5 : i = 5 := by omega
        subst e5
        rw [if_neg e, if_pos rfl]
    · refine key _ ?_
      rw [nI_clamp (by omega)]
      unfold pj_cf
      rw [if_pos hlt]
end
section
variable {g_greatest g_poolSize g_count g_doing g_pc g_tall g_made g_forks g_bits : Int32} {d_ops d_args d_reached d_fresh d_coming d_dist d_stack d_locals d_fields : Nat → Int32} {n mh : Nat} {O : Nat → Nat} {G : Nat → Int32}
theorem my_cell {post : Int32 → Prop} {x : Int32} {h m : Nat} (hst : g_doing ≠ 0) (hh : g_tall = nI h) (hr : g_made = nI m) (h4 : h ≤ 4) (m8 : m ≤ 8) (Hn : x < 0 → post 0) (Hi : ∀ i, x = nI i → i < 2 ^ 31 → post (pj_cf h m d_stack d_locals d_fields i)) : wpY_cell post (g_greatest, g_poolSize, g_count, g_doing, g_pc, g_tall, g_made, g_forks, g_bits, d_ops, d_args, d_reached, d_fresh, d_coming, d_dist, d_stack, d_locals, d_fields) x := by
  subst hh hr
  refine br_f hst ?_
  by_cases h0 : x < 0
  · refine br_t h0 (br_f (fun z => ?_) (br_f (fun z => ?_) (br_t (pj_neg8 h0) (Hn h0))))
    · subst z; exact absurd h0 (by decide)
    · subst z; exact absurd h0 (by decide)
  · obtain ⟨i, hi, rfl⟩ := nI_of h0
    have key : ∀ r, pj_cf h m d_stack d_locals d_fields i = r → post r := fun r e => by rw [← e]; exact Hi i rfl hi
    refine br_f h0 (pk_le h i (fun hge => ?_) (fun hlt => ?_))
    · refine pk_eq i 4 (fun e => ?_) (fun i4 => pk_eq i 5 (fun e => ?_) (fun i5 => ?_))
      · subst e
        refine ⟨vp_in_iff.mpr (by decide), key _ ?_⟩
        unfold pj_cf
        rw [if_neg (by omega), if_pos rfl]
        rfl
      · subst e
        refine ⟨vp_in_iff.mpr (by decide), key _ ?_⟩
        unfold pj_cf
        rw [if_neg (by omega), if_neg (by omega), if_pos rfl]
        rfl
      · refine pk_lt i 8 (fun h8 => key 0 ?_) (fun h8 => ?_)
        · unfold pj_cf
          rw [if_neg (by omega), if_neg i4, if_neg i5, if_neg (by omega)]
        · rw [pj_n8, pk_sub h8]
          refine pk_le m (i - 8) (fun hm => key 0 ?_) (fun hm => ?_)
          · unfold pj_cf
            rw [if_neg (by omega), if_neg i4, if_neg i5, if_neg (by omega)]
          · rw [pj_and7 (by omega)]
            refine ⟨vp_in_nI (by omega) (by decide), key _ ?_⟩
            rw [nI_clamp (by omega)]
            unfold pj_cf
            rw [if_neg (by omega), if_neg i4, if_neg i5, if_pos (by omega)]
    · rw [pj_and3 (by omega)]
      refine ⟨vp_in_nI (by omega) (by decide), key _ ?_⟩
      rw [nI_clamp (by omega)]
      unfold pj_cf
      rw [if_pos hlt]
theorem my_kz {post : Int32 → Prop} {p : Nat} {h pl : Int32} (W : pj_PG n mh O G) (hp : p < n) (hc : g_count = nI n) (C : pj_CY n mh O G d_reached d_dist) (hz : ∀ s, s < 1089 → nI (pj_hg (s / 9)) ≠ h) (H : post 0) : wpY_kinds post (g_greatest, g_poolSize, g_count, g_doing, g_pc, g_tall, g_made, g_forks, g_bits, d_ops, d_args, d_reached, d_fresh, d_coming, d_dist, d_stack, d_locals, d_fields) (nI p) h pl := by
  have hn := W.1
  have L : ∃ m : Nat, wY_kinds_37 post (nI p) h pl g_greatest g_poolSize g_count g_doing g_pc g_tall g_made g_forks g_bits d_ops d_args d_reached d_fresh d_coming d_dist d_stack d_locals d_fields m 0 0 := my_kindsL (dgt := fun _ => 0) W hp C (fun _ => by omega) (fun s hs e => absurd e (hz s hs)) (fun r hr => by
    have e : r = 0 := by
      apply b_ext
      intro b hb
      rw [b_0]
      cases hbt : bt r b
      · rfl
      · obtain ⟨s, h1, h2, _⟩ := (hr b hb).mp hbt
        exact absurd h2 (hz s (pj_Rlt W h1).2)
    rw [e]
    exact H)
  have k24 : wY_kinds_24 post (nI p) h pl 0 g_greatest g_poolSize g_count g_doing g_pc g_tall g_made g_forks g_bits d_ops d_args d_reached d_fresh d_coming d_dist d_stack d_locals d_fields := br_c (fun _ => L) (fun _ => br_c (fun _ => L) (fun _ => H))
  exact br_f (nI_pos (by omega)) (br_f (by rw [hc]; exact nI_ge hp (by omega)) (br_c (fun _ => k24) (fun _ => br_c (fun _ => L) (fun _ => k24))))
theorem my_kout {post : Int32 → Prop} {p hh : Nat} {pl : Int32} (W : pj_PG n mh O G) (hp : p < n) (hc : g_count = nI n) (hh5 : hh < 5) (hpl : pl < 0 ∨ nI 6 ≤ pl) (H : post 0) : wpY_kinds post (g_greatest, g_poolSize, g_count, g_doing, g_pc, g_tall, g_made, g_forks, g_bits, d_ops, d_args, d_reached, d_fresh, d_coming, d_dist, d_stack, d_locals, d_fields) (nI p) (nI hh) pl := by
  have hn := W.1
  have ne : ∀ j, j < 6 → pl ≠ nI j := fun j hj e => by
    subst e
    rcases hpl with h | h
    · exact nI_pos (by omega) h
    · exact nI_ge hj (by omega) h
  have k24 : wY_kinds_24 post (nI p) (nI hh) pl 0 g_greatest g_poolSize g_count g_doing g_pc g_tall g_made g_forks g_bits d_ops d_args d_reached d_fresh d_coming d_dist d_stack d_locals d_fields := br_f (ne 4 (by omega)) (br_f (ne 5 (by omega)) H)
  refine br_f (nI_pos (by omega)) (br_f (by rw [hc]; exact nI_ge hp (by omega)) (br_c (fun _ => k24) (fun h0 => br_f (fun z => ?_) k24)))
  rcases hpl with h | h
  · exact h0 h
  · exact nI_nlt (a := 6) (b := hh) (by omega) (by omega) (Int32.lt_of_le_of_lt h z)
theorem my_kinds {post : Int32 → Prop} {p hh pl : Nat} (W : pj_PG n mh O G) (hp : p < n) (hc : g_count = nI n) (C : pj_CY n mh O G d_reached d_dist) (hh5 : hh < 5) (hpl : pl < 6)
    (H : ∀ r, (∀ b, b < 32 → (bt r b = true ↔ ∃ s, pj_Rc n mh O G p s ∧ pj_hg (s / 9) = hh ∧ pj_Kd s hh pl b)) → post r) : wpY_kinds post (g_greatest, g_poolSize, g_count, g_doing, g_pc, g_tall, g_made, g_forks, g_bits, d_ops, d_args, d_reached, d_fresh, d_coming, d_dist, d_stack, d_locals, d_fields) (nI p) (nI hh) (nI pl) := by
  have hn := W.1
  have eh : ∀ s, nI (pj_hg (s / 9)) = nI hh ↔ pj_hg (s / 9) = hh := fun s => nI_eq (by have := pj_hgle (s / 9); omega) (by omega)
  have L : ∀ dgt : Nat → Nat, (∀ s, dgt s < 3) → (∀ s, s < 1089 → nI (pj_hg (s / 9)) = nI hh → ∀ post : Int32 → Prop, post (nI (dgt s)) → wpY_digitAt post (g_greatest, g_poolSize, g_count, g_doing, g_pc, g_tall, g_made, g_forks, g_bits, d_ops, d_args, d_reached, d_fresh, d_coming, d_dist, d_stack, d_locals, d_fields) (nI s) (nI hh) (nI pl)) → (∀ s b, pj_Kd s hh pl b ↔ dgt s = b) → ∃ m : Nat, wY_kinds_37 post (nI p) (nI hh) (nI pl) g_greatest g_poolSize g_count g_doing g_pc g_tall g_made g_forks g_bits d_ops d_args d_reached d_fresh d_coming d_dist d_stack d_locals d_fields m 0 0 := fun dgt d1 d2 d3 =>
    my_kindsL (dgt := dgt) W hp C d1 d2 (fun r hr => H r (fun b hb => by
      rw [hr b hb]
      exact ⟨fun ⟨s, a1, a2, a3⟩ => ⟨s, a1, (eh s).mp a2, (d3 s b).mpr a3⟩, fun ⟨s, a1, a2, a3⟩ => ⟨s, a1, (eh s).mpr a2, (d3 s b).mp a3⟩⟩))
  have L4 : pl = 4 → ∃ m : Nat, wY_kinds_37 post (nI p) (nI hh) (nI pl) g_greatest g_poolSize g_count g_doing g_pc g_tall g_made g_forks g_bits d_ops d_args d_reached d_fresh d_coming d_dist d_stack d_locals d_fields m 0 0 := fun e => by
    subst e
    refine L (fun s => s / 3 % 3) (fun s => by omega) (fun s hs _ post K => br_t rfl ⟨by decide, by decide, ?_⟩) (fun s b => ?_)
    · rw [pj_n3, pk_div (by omega) (by omega) (by omega), pk_rem (by omega) (by omega) (by omega)]
      exact K
    · unfold pj_Kd
      omega
  have L5 : pl = 5 → ∃ m : Nat, wY_kinds_37 post (nI p) (nI hh) (nI pl) g_greatest g_poolSize g_count g_doing g_pc g_tall g_made g_forks g_bits d_ops d_args d_reached d_fresh d_coming d_dist d_stack d_locals d_fields m 0 0 := fun e => by
    subst e
    refine L (fun s => s % 3) (fun s => by omega) (fun s hs _ post K => br_f (by decide) (br_t rfl ⟨by decide, ?_⟩)) (fun s b => ?_)
    · rw [pj_n3, pk_rem (by omega) (by omega) (by omega)]
      exact K
    · unfold pj_Kd
      omega
  refine br_f (nI_pos (by omega)) (br_f (by rw [hc]; exact nI_ge hp (by omega)) (br_f (nI_pos (by omega)) (pk_lt pl hh (fun hlt => ?_) (fun hge => pk_eq pl 4 L4 (fun n4 => pk_eq pl 5 L5 (fun n5 => ?_))))))
  · refine L (fun s => pj_dg (s / 9) pl) (fun s => pj_dg3 _ _) (fun s hs e post K => my_digitAt hs e (by rw [(eh s).mp e]; exact hlt) K) (fun s b => ?_)
    unfold pj_Kd
    constructor
    · rintro (⟨_, h⟩ | ⟨h, _⟩ | ⟨h, _⟩)
      · exact h
      · omega
      · omega
    · exact fun h => Or.inl ⟨hlt, h⟩
  · refine H 0 (fun b hb => ?_)
    rw [b_0]
    refine ⟨fun z => absurd z (by decide), fun ⟨s, _, _, z⟩ => ?_⟩
    unfold pj_Kd at z
    omega
end
theorem i_vc_kinds {k : Nat} {u : SX} {v : SY} (I : i_Rel k u v) (hk : k + 4 ≤ 2050) (v1 : Int32) (v2 : Int32) (v3 : Int32) : wpX_kinds (fun r => wpY_kinds (fun r' => r' = r ∧ i_Rel (k + 4) u v) v v1 v2 v3) u v1 v2 v3 := by
  have I' := i_up I
  obtain ⟨n, mh, pl, O, G, fy, fq, kh, st, po, he, re, ch, fo, fb, hb, kb, ls, aq, aqs, ar, ks, kl, sta, lo, fie, pc, ta, ma, yf, rc, fr, cm, ds, yl, rfl, rfl, W, p1, p8, S, CX, CY, M⟩ := I
  have hn := W.1
  unfold wpX_kinds
  refine mx_isPos hn rfl (fun h => br_t rfl ?_) (fun j hj ej => br_f (by decide) ?_)
  · by_cases h0 : v1 < 0
    · exact br_t h0 ⟨rfl, I'⟩
    · exact br_f h0 (br_t (h.elim (fun z => absurd z h0) id) ⟨rfl, I'⟩)
  · subst ej
    have ne5 : (v2 < 0 ∨ nI 5 ≤ v2) → ∀ s, s < 1089 → nI (pj_hg (s / 9)) ≠ v2 := fun h s hs e => by
      have h4 := pj_hgle (s / 9)
      subst e
      rcases h with h | h
      · exact nI_pos (by omega) h
      · exact nI_ge (b := 5) (by omega) (by omega) h
    rcases pk_ix v2 (n := 5) (by omega) with h | h | ⟨hh, hh5, rfl⟩
    · exact br_t h (my_kz W hj rfl CY (ne5 (Or.inl h)) ⟨rfl, I'⟩)
    · have h0 : ¬ v2 < 0 := Int32.not_lt.mpr (Int32.le_trans (by decide) h)
      exact br_f h0 (br_t (Int32.lt_of_lt_of_le (by decide) h) (my_kz W hj rfl CY (ne5 (Or.inr h)) ⟨rfl, I'⟩))
    · refine br_f (nI_pos (by omega)) (br_f (nI_nlt (b := 4) (a := 4) (by omega) (by omega) |> fun _ => Int32.not_lt.mpr (nI_le (b := 4) (by omega) (by decide))) ?_)
      rcases pk_ix v3 (n := 6) (by omega) with h | h | ⟨pl', hpl, rfl⟩
      · exact br_t h (my_kout W hj rfl hh5 (Or.inl h) ⟨rfl, I'⟩)
      · have h0 : ¬ v3 < 0 := Int32.not_lt.mpr (Int32.le_trans (by decide) h)
        exact br_f h0 (br_f (Int32.not_lt.mpr h) (my_kout W hj rfl hh5 (Or.inr h) ⟨rfl, I'⟩))
      · refine br_f (nI_pos (by omega)) (br_t (nI_lt (b := 6) hpl (by decide)) ?_)
        have e : (nI j * 5 + nI hh) * 6 + nI pl' = nI ((j * 5 + hh) * 6 + pl') := by
          rw [show (5 : Int32) = nI 5 from rfl, show (6 : Int32) = nI 6 from rfl, pk_mul, nI_add, pk_mul, nI_add]
        refine nm_r e ⟨vp_in_nI (by omega) (by decide), ?_⟩
        refine my_kinds W hj rfl CY hh5 hpl (fun r hr => ⟨?_, I'⟩)
        rw [nI_clamp (by omega)]
        apply b_ext
        intro b hb
        rw [Bool.eq_iff_iff, hr b hb]
        exact ((CX (by omega)).2.2.1 j hh pl' (by omega) hh5 hpl b hb).symm
theorem i_vc_cell {k : Nat} {u : SX} {v : SY} (I : i_Rel k u v) (hk : k + 4 ≤ 2050) (v1 : Int32) : wpX_cell (fun r => wpY_cell (fun r' => r' = r ∧ i_Rel (k + 4) u v) v v1) u v1 := by
  have I' := i_up I
  obtain ⟨n, mh, pl, O, G, fy, fq, kh, st, po, he, re, ch, fo, fb, hb, kb, ls, aq, aqs, ar, ks, kl, sta, lo, fie, pc, ta, ma, yf, rc, fr, cm, ds, yl, rfl, rfl, W, p1, p8, S, CX, CY, M⟩ := I
  rcases M with ⟨e0, e1, e2, e3, e4, e5⟩ | ⟨h0, p, h, m, e1, e2, e3, e4, e5, e6, e7, e8, e9, hp, h4, hm, _⟩
  · refine mx_cell (h := 0) (m := 0) e2 e3 (by omega) (by omega) (fun _ => br_t e0 ⟨rfl, I'⟩) (fun i ei hi => br_t e0 ⟨?_, I'⟩)
    unfold pj_cf
    rw [if_neg (by omega), e4, e5]
    split
    · rfl
    · split
      · rfl
      · rw [if_neg (by omega)]
  · refine mx_cell e3 e5 h4 (by omega) (fun hn => ?_) (fun i ei hi => ?_)
    · exact my_cell h0 e4 e6 h4 (by omega) (fun _ => ⟨rfl, I'⟩) (fun i ei hi => by subst ei; exact absurd hn (nI_pos hi))
    · refine my_cell h0 e4 e6 h4 (by omega) (fun hn => by subst ei; exact absurd hn (nI_pos hi)) (fun i' ei' hi' => ⟨?_, I'⟩)
      have ee : i' = i := (nI_eq hi' hi).mp (ei'.symm.trans ei)
      subst ee
      unfold pj_cf
      rw [e8, e9]
