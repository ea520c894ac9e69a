/-! step, and the end -/
section
variable {f_maxHeight f_pool f_length f_faulty f_queued f_kindHeight f_status f_position f_height f_records f_choices f_forks : Int32} {a_ops a_args a_faultBits a_heightBits a_kindBits a_leastSteps a_queue a_queueSteps a_reached a_kindStack a_kindLocals a_stack a_locals a_fields : Nat → Int32} {g_greatest g_poolSize g_count g_doing g_pc g_tall g_made g_forks g_bits : Int32} {d_ops d_args d_reached d_fresh d_coming d_dist d_stack d_locals d_fields : Nat → Int32} {n mh pl : Nat} {O : Nat → Nat} {G : Nat → Int32}
theorem mx_halt {post : Int32 → SX → Prop} {L i d : Nat} (hL : L ≤ 64) (hi : i ≤ L) (hst : f_status ≠ 1) (H : post (nI i) (f_maxHeight, f_pool, f_length, f_faulty, f_queued, f_kindHeight, f_status, f_position, f_height, f_records, f_choices, f_forks, a_ops, a_args, a_faultBits, a_heightBits, a_kindBits, a_leastSteps, a_queue, a_queueSteps, a_reached, a_kindStack, a_kindLocals, a_stack, a_locals, a_fields)) : wX_step_10 post (nI L) (d + 1) (nI i) f_maxHeight f_pool f_length f_faulty f_queued f_kindHeight f_status f_position f_height f_records f_choices f_forks a_ops a_args a_faultBits a_heightBits a_kindBits a_leastSteps a_queue a_queueSteps a_reached a_kindStack a_kindLocals a_stack a_locals a_fields := by
  refine pk_le L i (fun h => ?_) (fun h => br_f hst (br_t rfl H))
  have e : L = i := by omega
  rw [e]
  exact H
theorem my_halt {post : Int32 → SY → Prop} {L k d : Nat} {x : Int32} (hst : g_doing ≠ 1) (H : post x (g_greatest, g_poolSize, g_count, g_doing, g_pc, g_tall, g_made, g_forks, g_bits, d_ops, d_args, d_reached, d_fresh, d_coming, d_dist, d_stack, d_locals, d_fields)) : wY_step_26 post (nI L) (d + 1) x (nI k) g_greatest g_poolSize g_count g_doing g_pc g_tall g_made g_forks g_bits d_ops d_args d_reached d_fresh d_coming d_dist d_stack d_locals d_fields := br_c (fun _ => H) (fun _ => br_f hst H)
theorem mm_loop (W : pj_PG n mh O G) (p1 : 1 ≤ pl) (p8 : pl ≤ 8) (S : pj_SQ f_queued a_queue a_queueSteps a_reached) (CX : 0 < n → pj_CX n mh O G f_faulty a_faultBits a_heightBits a_kindBits a_leastSteps) (CY : pj_CY n mh O G d_reached d_dist) {L : Nat} (hL : L ≤ 64) :
    ∀ d i p h m yf sta lo yl fie, i + d = L → h ≤ 4 → m ≤ pl → lo 0 = yl 0 → lo 1 = yl 1 → pj_T n mh O G p h m sta lo →
      ∃ r u' v', i_Rel 0 u' v' ∧
        (∀ post : Int32 → SX → Prop, post r u' → wX_step_10 post (nI L) (d + 1) (nI i) (nI mh) (nI pl) (nI n) f_faulty f_queued f_kindHeight (1) (nI p) (nI h) (nI m) f_choices (yf &&& 31) (pj_nF O) (G) a_faultBits a_heightBits a_kindBits a_leastSteps a_queue a_queueSteps a_reached a_kindStack a_kindLocals (sta) (lo) (fie)) ∧
        (∀ post : Int32 → SY → Prop, post r v' → wY_step_26 post (nI L) (d + 1) (nI i) (nI i) (nI mh) (nI pl) (nI n) (1) (nI p) (nI h) (nI m) (yf) (f_choices) (pj_nF O) (G) d_reached d_fresh d_coming d_dist (sta) (yl) (fie)) := by
  have hn := W.1
  intro d
  induction d with
  | zero =>
    intro i p h m yf sta lo yl fie hi h4 hm l0 l1 T
    have e : i = L := by omega
    subst e
    have hp : p < 16 := by
      obtain ⟨_, s, hs, _⟩ := T
      have := (pj_Rlt W hs).1
      omega
    refine ⟨nI i, (nI mh, nI pl, nI n, f_faulty, f_queued, f_kindHeight, 1, nI p, nI h, nI m, f_choices, yf &&& 31, pj_nF O, G, a_faultBits, a_heightBits, a_kindBits, a_leastSteps, a_queue, a_queueSteps, a_reached, a_kindStack, a_kindLocals, sta, lo, fie), (nI mh, nI pl, nI n, 1, nI p, nI h, nI m, yf, f_choices, pj_nF O, G, d_reached, d_fresh, d_coming, d_dist, sta, yl, fie), ⟨n, mh, pl, O, G, _, _, _, _, _, _, _, _, _, _, _, _, _, _, _, _, _, _, _, _, _, _, _, _, _, _, _, _, _, _, rfl, rfl, W, p1, p8, S, CX, CY, Or.inr ⟨by decide, p, h, m, rfl, rfl, rfl, rfl, rfl, rfl, rfl, l0, l1, hp, h4, hm, fun _ => T⟩⟩, fun post K => ?_, fun post K => ?_⟩
    · exact br_t (nI_le (Nat.le_refl _) (by omega)) K
    · exact br_t (nI_le (Nat.le_refl _) (by omega)) K
  | succ d ih =>
    intro i p h m yf sta lo yl fie hi h4 hm l0 l1 T
    obtain ⟨hp, ho, hc⟩ := mm_carry (f_faulty := f_faulty) (f_queued := f_queued) (f_kindHeight := f_kindHeight) (f_choices := f_choices) (a_faultBits := a_faultBits) (a_heightBits := a_heightBits) (a_kindBits := a_kindBits) (a_leastSteps := a_leastSteps) (a_queue := a_queue) (a_queueSteps := a_queueSteps) (a_reached := a_reached) (a_kindStack := a_kindStack) (a_kindLocals := a_kindLocals) (a_stack := sta) (a_locals := lo) (a_fields := fie) (g_forks := yf) (d_reached := d_reached) (d_fresh := d_fresh) (d_coming := d_coming) (d_dist := d_dist) (d_locals := yl) W p8 hm h4 l0 l1 T
    have hin := vp_in_nI (n := p) (N := 16) (by omega) (by decide)
    have hnl : ¬ nI L ≤ nI i := nI_ge (by omega) (by omega)
    have eo : pj_nF O (nI p &&& 15).toNatClampNeg = nI (O p) := by rw [pj_and15 (by omega), nI_clamp (by omega)]; rfl
    have eg : G (nI p &&& 15).toNatClampNeg = G p := by rw [pj_and15 (by omega), nI_clamp (by omega)]
    have hin' : vp_in (nI p &&& 15) 16 := by rw [pj_and15 (by omega)]; exact hin
    have y75 : ¬ (O p = 1 ∧ pl ≤ m) → ∀ post : Int32 → SY → Prop, wY_step_75 post (wY_step_26 post (nI L) (d + 1)) (nI L) (nI i) (nI i) (nI mh) (nI pl) (nI n) (1) (nI p) (nI h) (nI m) (yf) (f_choices) (pj_nF O) (G) d_reached d_fresh d_coming d_dist (sta) (yl) (fie) → wY_step_26 post (nI L) (d + 1 + 1) (nI i) (nI i) (nI mh) (nI pl) (nI n) (1) (nI p) (nI h) (nI m) (yf) (f_choices) (pj_nF O) (G) d_reached d_fresh d_coming d_dist (sta) (yl) (fie) := fun ex post K => by
      refine br_f hnl (br_t rfl ⟨hin', ?_⟩)
      rw [eo]
      exact pk_eq (O p) 1 (fun o1 => br_t (nI_lt (by omega) (by omega)) K) (fun _ => K)
    rcases hc with ⟨o1, hge, KX⟩ | ⟨ex, KX, KY⟩ | ⟨ex, p', h', m', yf', sta', lo', yl', fie', q4, qm, q0, q1, T', KX, KY⟩
    · refine ⟨nI i, (nI mh, nI pl, nI n, f_faulty, f_queued, f_kindHeight, 3, nI p, nI h, nI m, f_choices, yf &&& 31, pj_nF O, G, a_faultBits, a_heightBits, a_kindBits, a_leastSteps, a_queue, a_queueSteps, a_reached, a_kindStack, a_kindLocals, sta, lo, fie), (nI mh, nI pl, nI n, 3, nI p, nI h, nI m, yf, f_choices, pj_nF O, G, d_reached, d_fresh, d_coming, d_dist, sta, yl, fie), ⟨n, mh, pl, O, G, _, _, _, _, _, _, _, _, _, _, _, _, _, _, _, _, _, _, _, _, _, _, _, _, _, _, _, _, _, _, rfl, rfl, W, p1, p8, S, CX, CY, Or.inr ⟨by decide, p, h, m, rfl, rfl, rfl, rfl, rfl, rfl, rfl, l0, l1, by omega, h4, hm, fun z => absurd z (by decide)⟩⟩, fun post K => br_f hnl (KX _ (br_t rfl K)), fun post K => ?_⟩
      refine br_f hnl (br_t rfl ⟨hin', ?_⟩)
      rw [eo]
      refine br_t (by rw [o1]; rfl) (br_f (nI_nlt hge (by omega)) (nm_r (nI_1 i) (my_halt (by decide) K)))
    · refine ⟨nI (i + 1), (nI mh, nI pl, nI n, f_faulty, f_queued, f_kindHeight, 2, nI p, nI h, nI m, f_choices, yf &&& 31, pj_nF O, G, a_faultBits, a_heightBits, a_kindBits, a_leastSteps, a_queue, a_queueSteps, a_reached, a_kindStack, a_kindLocals, sta, lo, fie), (nI mh, nI pl, nI n, 2, nI p, nI h, nI m, yf, f_choices, pj_nF O, G, d_reached, d_fresh, d_coming, d_dist, sta, yl, fie), ⟨n, mh, pl, O, G, _, _, _, _, _, _, _, _, _, _, _, _, _, _, _, _, _, _, _, _, _, _, _, _, _, _, _, _, _, _, rfl, rfl, W, p1, p8, S, CX, CY, Or.inr ⟨by decide, p, h, m, rfl, rfl, rfl, rfl, rfl, rfl, rfl, l0, l1, by omega, h4, hm, fun z => absurd z (by decide)⟩⟩, fun post K => br_f hnl (KX _ (br_f (by decide) (nm_r (nI_1 i) (mx_halt hL (by omega) (by decide) K)))), fun post K => y75 ex post ⟨hin', hin', ?_⟩⟩
      rw [eo, eg]
      exact KY _ (nm_r (nI_1 i) (nm_r (nI_1 i) (my_halt (by decide) K)))
    · obtain ⟨r, u', v', R, HX, HY⟩ := ih (i + 1) p' h' m' yf' sta' lo' yl' fie' (by omega) q4 qm q0 q1 T'
      refine ⟨r, u', v', R, fun post K => br_f hnl (KX _ (br_f (by decide) (nm_r (nI_1 i) (HX post K)))), fun post K => y75 ex post ⟨hin', hin', ?_⟩⟩
      rw [eo, eg]
      exact KY _ (nm_r (nI_1 i) (nm_r (nI_1 i) (HY post K)))
end
theorem i_vc_step {k : Nat} {u : SX} {v : SY} (I : i_Rel k u v) (hk : k + 4 ≤ 2050) (v1 : Int32) : wpX_step (fun r u' => wpY_step (fun r' v' => r' = r ∧ i_Rel (k + 4) u' v') v v1) u v1 := by
  have I' := i_up I
  obtain ⟨n, mh, pl, O, G, fy, fq, kh, st, po, he, re, ch, fo, fb, hb, kb, ls, aq, aqs, ar, ks, kl, sta, lo, fie, pc, ta, ma, yf, rc, fr, cm, ds, yl, rfl, rfl, W, p1, p8, S, CX, CY, M⟩ := I
  have main : ∀ L, L ≤ 64 → ∃ r u' v', i_Rel 0 u' v' ∧
      (∀ post : Int32 → SX → Prop, post r u' → ∃ m : Nat, wX_step_10 post (nI L) m 0 (nI mh) (nI pl) (nI n) fy fq kh st po he re ch fo (pj_nF O) G fb hb kb ls aq aqs ar ks kl sta lo fie) ∧
      (∀ post : Int32 → SY → Prop, post r v' → ∃ m : Nat, wY_step_26 post (nI L) m 0 0 (nI mh) (nI pl) (nI n) st pc ta ma yf ch (pj_nF O) G rc fr cm ds sta yl fie) := fun L hL => by
    by_cases hst : st = 1
    · rcases M with ⟨e0, _⟩ | ⟨h0, p, h, m, e1, e2, e3, e4, e5, e6, e7, e8, e9, hp, h4, hm, T⟩
      · subst hst
        exact absurd e0 (by decide)
      · subst hst e1 e2 e3 e4 e5 e6 e7
        obtain ⟨r, u', v', R, HX, HY⟩ := mm_loop W p1 p8 S CX CY hL L 0 p h m yf sta lo yl fie (by omega) h4 hm e8 e9 (T rfl)
        exact ⟨r, u', v', R, fun post K => ⟨_, HX post K⟩, fun post K => ⟨_, HY post K⟩⟩
    · exact ⟨0, _, _, I', fun post K => ⟨1, mx_halt (i := 0) hL (by omega) hst K⟩, fun post K => ⟨1, my_halt (k := 0) hst K⟩⟩
  unfold wpX_step
  refine mx_clamp (fun h => ?_) (fun h h' => ?_) (fun h h' => ?_)
  · obtain ⟨r, u', v', R, HX, HY⟩ := main 0 (by omega)
    exact HX _ (br_f (Int32.not_le.mpr h) (HY _ ⟨rfl, R⟩))
  · obtain ⟨r, u', v', R, HX, HY⟩ := main 64 (by omega)
    exact HX _ (br_t h (br_f (Int32.not_le.mpr h') (HY _ ⟨rfl, R⟩)))
  · obtain ⟨L, hL, rfl⟩ := nI_of2 (M := 64) (n := 64) (by decide) (Int32.not_lt.mpr h) h'
    obtain ⟨r, u', v', R, HX, HY⟩ := main L hL
    exact HX _ (br_t h (br_t h' (HY _ ⟨rfl, R⟩)))
