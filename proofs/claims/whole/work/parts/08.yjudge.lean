/-! the reference's judge -/
def pj_New (n mh : Nat) (O : Nat → Nat) (G : Nat → Int32) (r p s : Nat) : Prop := pj_D n mh O G r p s ∧ ¬ ∃ k, k < r ∧ pj_D n mh O G k p s
/-- in a round: what the processed fresh ones (Pr) have brought -/
def pj_CI (n mh : Nat) (O : Nat → Nat) (G : Nat → Int32) (r : Nat) (F Pr : Nat → Nat → Prop) (ds0 cm ds : Nat → Int32) : Prop :=
  (∀ s' p', s' < 1089 → p' < 32 → (bt (cm s') p' = true ↔ ∃ s p, Pr s p ∧ F s p ∧ pj_St n mh O G p s p' s')) ∧
  (∀ p, p < 16 → ((¬ 0 ≤ ds0 p ∧ ∃ s, Pr s p ∧ F s p) → ds p = nI r) ∧ (¬ (¬ 0 ≤ ds0 p ∧ ∃ s, Pr s p ∧ F s p) → ds p = ds0 p))
theorem pj_CIc {n mh : Nat} {O : Nat → Nat} {G : Nat → Int32} {r : Nat} {F Pr Pr' : Nat → Nat → Prop} {ds0 cm ds : Nat → Int32} (I : pj_CI n mh O G r F Pr ds0 cm ds) (h : ∀ s p, F s p → (Pr' s p ↔ Pr s p)) : pj_CI n mh O G r F Pr' ds0 cm ds := by
  have e : ∀ p, (∃ s, Pr' s p ∧ F s p) ↔ (∃ s, Pr s p ∧ F s p) := fun p => ⟨fun ⟨s, a, b⟩ => ⟨s, (h s p b).mp a, b⟩, fun ⟨s, a, b⟩ => ⟨s, (h s p b).mpr a, b⟩⟩
  refine ⟨fun s' p' hs hp => (I.1 s' p' hs hp).trans ⟨fun ⟨s, p, a, b, c⟩ => ⟨s, p, (h s p b).mpr a, b, c⟩, fun ⟨s, p, a, b, c⟩ => ⟨s, p, (h s p b).mp a, b, c⟩⟩, fun p hp => ?_⟩
  rw [e p]
  exact I.2 p hp
theorem pj_CIs {n mh : Nat} {O : Nat → Nat} {G : Nat → Int32} {r : Nat} {F Pr Pr' : Nat → Nat → Prop} {ds0 cm ds cm' ds' : Nat → Int32} {s p : Nat} (I : pj_CI n mh O G r F Pr ds0 cm ds) (hr : r < 2 ^ 31) (hp : p < 16) (hF : F s p) (h : ∀ s' p', Pr' s' p' ↔ Pr s' p' ∨ (s' = s ∧ p' = p))
    (hcm : ∀ s' p', p' < 32 → (bt (cm' s') p' = true ↔ bt (cm s') p' = true ∨ pj_St n mh O G p s p' s')) (h1 : 0 ≤ ds p → ds' = ds) (h2 : ¬ 0 ≤ ds p → ds' = upd ds p (nI r)) : pj_CI n mh O G r F Pr' ds0 cm' ds' := by
  refine ⟨fun s' p' hs' hp' => ?_, fun p' hp' => ?_⟩
  · rw [hcm s' p' hp', I.1 s' p' hs' hp']
    constructor
    · rintro (⟨a, b, c, d, e⟩ | e)
      · exact ⟨a, b, (h a b).mpr (Or.inl c), d, e⟩
      · exact ⟨s, p, (h s p).mpr (Or.inr ⟨rfl, rfl⟩), hF, e⟩
    · rintro ⟨a, b, c, d, e⟩
      rcases (h a b).mp c with c | ⟨rfl, rfl⟩
      · exact Or.inl ⟨a, b, c, d, e⟩
      · exact Or.inr e
  · obtain ⟨i1, i2⟩ := I.2 p' hp'
    by_cases c : p' = p
    · subst c
      have ex : ∃ s', Pr' s' p' ∧ F s' p' := ⟨s, (h s p').mpr (Or.inr ⟨rfl, rfl⟩), hF⟩
      by_cases c0 : 0 ≤ ds0 p'
      · refine ⟨fun z => absurd c0 z.1, fun _ => ?_⟩
        have e := i2 (fun z => z.1 c0)
        rw [h1 (by rw [e]; exact c0)]
        exact e
      · refine ⟨fun _ => ?_, fun z => absurd ⟨c0, ex⟩ z⟩
        rcases Classical.em (∃ s', Pr s' p' ∧ F s' p') with c1 | c1
        · have e := i1 ⟨c0, c1⟩
          rw [h1 (by rw [e]; exact nI_pos' hr)]
          exact e
        · have e := i2 (fun z => c1 z.2)
          rw [h2 (by rw [e]; exact c0), pk_us]
    · have ed : ds' p' = ds p' := by
        by_cases c0 : 0 ≤ ds p
        · rw [h1 c0]
        · rw [h2 c0, pk_un c]
      have ee : (∃ s', Pr' s' p' ∧ F s' p') ↔ (∃ s', Pr s' p' ∧ F s' p') := ⟨fun ⟨a, b, d⟩ => ⟨a, ((h a p').mp b).elim id (fun z => absurd z.2 c), d⟩, fun ⟨a, b, d⟩ => ⟨a, (h a p').mpr (Or.inl b), d⟩⟩
      rw [ed, ee]
      exact ⟨i1, i2⟩
def pj_YD (n mh : Nat) (O : Nat → Nat) (G : Nat → Int32) (r p : Nat) (d : Int32) : Prop :=
  (d = -1 ∧ ∀ k, k < r → ∀ s, ¬ pj_D n mh O G k p s) ∨ ∃ k, k < r ∧ d = nI k ∧ (∃ s, pj_D n mh O G k p s) ∧ ∀ k', k' < k → ∀ s, ¬ pj_D n mh O G k' p s
def pj_YI (n mh : Nat) (O : Nat → Nat) (G : Nat → Int32) (r : Nat) (rc cm ds : Nat → Int32) : Prop :=
  (∀ s p, s < 1089 → p < 32 → (bt (rc s) p = true ↔ ∃ k, k < r ∧ pj_D n mh O G k p s)) ∧
  (∀ s p, s < 1089 → p < 32 → bt (cm s) p = true → pj_D n mh O G r p s) ∧
  (∀ s p, pj_D n mh O G r p s → bt (cm s) p = true ∨ bt (rc s) p = true) ∧
  (∀ p, p < 16 → pj_YD n mh O G r p (ds p))
theorem pj_YIs {n mh : Nat} {O : Nat → Nat} {G : Nat → Int32} {r : Nat} {rc cm ds fr rc' cm' ds' : Nat → Int32} (W : pj_PG n mh O G) (hr : r < 2 ^ 31) (I : pj_YI n mh O G r rc cm ds)
    (hf : ∀ s, s < 1089 → fr s = cm s &&& (rc s ^^^ (-1)) ∧ rc' s = rc s ||| fr s) :
    (∀ s p, s < 1089 → p < 32 → (bt (fr s) p = true ↔ pj_New n mh O G r p s)) ∧
    (pj_CI n mh O G r (fun s p => s < 1089 ∧ bt (fr s) p = true) (fun s _ => s < 1089) ds cm' ds' → pj_YI n mh O G (r + 1) rc' cm' ds') := by
  obtain ⟨i1, i2, i3, i4⟩ := I
  have hn := W.1
  have fN : ∀ s p, s < 1089 → p < 32 → (bt (fr s) p = true ↔ pj_New n mh O G r p s) := fun s p hs hp => by
    rw [(hf s hs).1, b_and, b_xor, b_m1 p hp, Bool.and_eq_true]
    unfold pj_New
    rw [← i1 s p hs hp]
    constructor
    · rintro ⟨a, b⟩
      refine ⟨i2 s p hs hp a, fun z => ?_⟩
      rw [z] at b
      exact absurd b (by decide)
    · rintro ⟨a, b⟩
      have b' : bt (rc s) p = false := by simpa using b
      rcases i3 s p a with h | h
      · exact ⟨h, by rw [b']; rfl⟩
      · exact absurd h b
  refine ⟨fN, fun C => ?_⟩
  have fD : ∀ s p, (s < 1089 ∧ bt (fr s) p = true) ↔ pj_New n mh O G r p s := fun s p => by
    constructor
    · rintro ⟨a, b⟩
      rcases Nat.lt_or_ge p 32 with hp | hp
      · exact (fN s p a hp).mp b
      · rw [b_big hp] at b
        exact absurd b (by decide)
    · intro h
      have hl := pj_Dlt W _ _ _ h.1
      exact ⟨hl.2, (fN s p hl.2 (by omega)).mpr h⟩
  refine ⟨fun s p hs hp => ?_, fun s p hs hp h => ?_, fun s p h => ?_, fun p hp => ?_⟩
  · rw [(hf s hs).2, b_or, Bool.or_eq_true, i1 s p hs hp, fN s p hs hp]
    constructor
    · rintro (⟨k, a, b⟩ | ⟨a, b⟩)
      · exact ⟨k, by omega, b⟩
      · exact ⟨r, by omega, a⟩
    · rintro ⟨k, a, b⟩
      rcases Classical.em (∃ k, k < r ∧ pj_D n mh O G k p s) with c | c
      · exact Or.inl c
      · have e : k = r := by
          rcases Nat.lt_or_ge k r with h | h
          · exact absurd ⟨k, h, b⟩ c
          · omega
        subst e
        exact Or.inr ⟨b, c⟩
  · obtain ⟨s1, p1, _, h1, h2⟩ := (C.1 s p hs hp).mp h
    exact ⟨p1, s1, ((fD s1 p1).mp h1).1, h2⟩
  · obtain ⟨p1, s1, h1, h2⟩ := h
    have hl1 := pj_Dlt W _ _ _ h1
    have hl := pj_Dlt W (r + 1) p s ⟨p1, s1, h1, h2⟩
    rcases Classical.em (∃ k, k < r ∧ pj_D n mh O G k p1 s1) with ⟨k, c1, c2⟩ | c
    · refine Or.inr ?_
      rw [(hf s hl.2).2, b_or, Bool.or_eq_true, i1 s p hl.2 (by omega), fN s p hl.2 (by omega)]
      rcases Classical.em (∃ k, k < r ∧ pj_D n mh O G k p s) with c | c
      · exact Or.inl c
      · have e : k + 1 = r := by
          rcases Nat.lt_or_ge (k + 1) r with h | h
          · exact absurd ⟨k + 1, h, p1, s1, c2, h2⟩ c
          · omega
        refine Or.inr ⟨?_, c⟩
        rw [← e]
        exact ⟨p1, s1, c2, h2⟩
    · exact Or.inl ((C.1 s p hl.2 (by omega)).mpr ⟨s1, p1, hl1.2, (fD s1 p1).mpr ⟨h1, c⟩, h2⟩)
  · obtain ⟨c1, c2⟩ := C.2 p hp
    rcases i4 p hp with ⟨a1, a2⟩ | ⟨k, a1, a2, a3, a4⟩
    · have hn0 : ¬ 0 ≤ ds p := by rw [a1]; decide
      rcases Classical.em (∃ s, pj_D n mh O G r p s) with ⟨s, hs⟩ | c
      · have hl := pj_Dlt W _ _ _ hs
        have e := c1 ⟨hn0, s, hl.2, (fD s p).mpr ⟨hs, fun ⟨k, b1, b2⟩ => a2 k b1 s b2⟩⟩
        exact Or.inr ⟨r, by omega, e, ⟨s, hs⟩, a2⟩
      · have e := c2 (fun ⟨_, s, _, z⟩ => c ⟨s, ((fD s p).mp z).1⟩)
        refine Or.inl ⟨by rw [e]; exact a1, fun k hk s hs => ?_⟩
        rcases Nat.lt_or_ge k r with h | h
        · exact a2 k h s hs
        · have ek : k = r := by omega
          subst ek
          exact c ⟨s, hs⟩
    · have h0 : 0 ≤ ds p := by rw [a2]; exact nI_pos' (by omega)
      have e := c2 (fun z => z.1 h0)
      exact Or.inr ⟨k, by omega, by rw [e]; exact a2, a3, a4⟩
theorem pj_cnt {n mh : Nat} {O : Nat → Nat} {G : Nat → Int32} (W : pj_PG n mh O G) : ∀ r, (∀ r', r' < r → ∃ p s, pj_New n mh O G r' p s) → r ≤ pj_cp (fun N => ∃ k, k < r ∧ pj_D n mh O G k (pj_yp N) (pj_ys N)) 17424 := by
  intro r
  induction r with
  | zero => intro _; exact Nat.zero_le _
  | succ r ih =>
    intro h
    have h1 := ih (fun r' hr' => h r' (by omega))
    obtain ⟨p, s, hD, hN⟩ := h r (by omega)
    have hl := pj_Dlt W _ _ _ hD
    have hn := W.1
    have h2 := pj_cps (A := fun N => ∃ k, k < r ∧ pj_D n mh O G k (pj_yp N) (pj_ys N)) (B := fun N => ∃ k, k < r + 1 ∧ pj_D n mh O G k (pj_yp N) (pj_ys N)) (N := pj_xn p s)
      ⟨r, by omega, by rw [pj_ypx hl.2, pj_ysx hl.2]; exact hD⟩ (by rw [pj_ypx hl.2, pj_ysx hl.2]; exact hN) 17424 (pj_xnlt (by omega) hl.2) (fun i _ ⟨k, a, b⟩ => ⟨k, by omega, b⟩)
    omega
/-- what the reference's judge has found -/
def pj_CY (n mh : Nat) (O : Nat → Nat) (G : Nat → Int32) (rc ds : Nat → Int32) : Prop :=
  (∀ s p, s < 1089 → p < 32 → (bt (rc s) p = true ↔ pj_Rc n mh O G p s)) ∧ (∀ p, p < 16 → pj_DS n mh O G p (ds p))
theorem pj_YIe {n mh : Nat} {O : Nat → Nat} {G : Nat → Int32} {r : Nat} {rc cm ds : Nat → Int32} (I : pj_YI n mh O G (r + 1) rc cm ds) (h : ∀ p s, ¬ pj_New n mh O G r p s) : pj_CY n mh O G rc ds := by
  have all : ∀ k p s, pj_D n mh O G k p s → ∃ k', k' < r ∧ k' ≤ k ∧ pj_D n mh O G k' p s := by
    have hr : ∀ p s, pj_D n mh O G r p s → ∃ k', k' < r ∧ pj_D n mh O G k' p s := fun p s hd => Classical.byContradiction (fun z => h p s ⟨hd, z⟩)
    intro k
    induction k with
    | zero =>
      intro p s hd
      rcases Nat.eq_zero_or_pos r with e | e
      · subst e
        obtain ⟨k', hk', _⟩ := hr p s hd
        omega
      · exact ⟨0, e, Nat.le_refl _, hd⟩
    | succ k ih =>
      intro p s hd
      obtain ⟨p1, s1, h1, h2⟩ := hd
      obtain ⟨k', a, a', b⟩ := ih p1 s1 h1
      rcases Nat.lt_or_ge (k' + 1) r with c | c
      · exact ⟨k' + 1, c, by omega, p1, s1, b, h2⟩
      · have e : r = k' + 1 := by omega
        obtain ⟨k2, b1, b2⟩ := hr p s (by rw [e]; exact ⟨p1, s1, b, h2⟩)
        exact ⟨k2, b1, by omega, b2⟩
  obtain ⟨i1, i2, i3, i4⟩ := I
  refine ⟨fun s p hs hp => ?_, fun p hp => ?_⟩
  · rw [i1 s p hs hp]
    constructor
    · rintro ⟨k, _, b⟩
      exact ⟨k, b⟩
    · rintro ⟨k, b⟩
      obtain ⟨k', a, _, c⟩ := all k p s b
      exact ⟨k', by omega, c⟩
  · rcases i4 p hp with ⟨a1, a2⟩ | ⟨k, a1, a2, a3, a4⟩
    · refine Or.inl ⟨a1, fun k s hd => ?_⟩
      obtain ⟨k', a, _, c⟩ := all k p s hd
      exact a2 k' (by omega) s c
    · refine Or.inr ⟨k, a2, a3, fun k' s hd => ?_⟩
      rcases Nat.lt_or_ge k' k with c | c
      · exact absurd hd (a4 k' c s)
      · exact c
section
variable {g_greatest g_poolSize g_count g_doing g_pc g_tall g_made g_forks g_bits : Int32} {d_ops d_args d_reached d_fresh d_coming d_dist d_stack d_locals d_fields : Nat → Int32} {n mh : Nat} {O : Nat → Nat} {G : Nat → Int32}
theorem my_spreadL {post : SY → Prop} {s r : Nat} {ds0 : Nat → Int32} {F : Nat → Nat → Prop} (W : pj_PG n mh O G) (hs : s < 1089) (hr : r < 2 ^ 31) (hF : ∀ p, p < 32 → (F s p ↔ bt (d_fresh s) p = true)) (hO : d_ops = pj_nF O) (hG : d_args = G) (hmh : g_greatest = nI mh) (hc : g_count = nI n)
    (H : ∀ cm ds, pj_CI n mh O G r F (fun s' p' => s' < s ∨ (s' = s ∧ p' < n)) ds0 cm ds → post (g_greatest, g_poolSize, g_count, g_doing, g_pc, g_tall, g_made, g_forks, g_bits, d_ops, d_args, d_reached, d_fresh, cm, ds, d_stack, d_locals, d_fields)) :
    ∀ d j cm ds, j + d = n → pj_CI n mh O G r F (fun s' p' => s' < s ∨ (s' = s ∧ p' < j)) ds0 cm ds → wY_spread_2 post (nI s) (nI r) (d + 1) (nI j) g_greatest g_poolSize g_count g_doing g_pc g_tall g_made g_forks g_bits d_ops d_args d_reached d_fresh (cm) (ds) d_stack d_locals d_fields := by
  have hn := W.1
  intro d
  induction d with
  | zero =>
    intro j cm ds hj I
    have e : j = n := by omega
    subst e
    exact br_t (by rw [hc]; exact nI_le (Nat.le_refl _) (by omega)) (H _ _ I)
  | succ d ih =>
    intro j cm ds hj I
    have hin := vp_in_nI (n := j) (N := 16) (by omega) (by decide)
    refine br_f (by rw [hc]; exact nI_ge (by omega) (by omega)) ⟨vp_in_nI hs (by decide), ?_⟩
    rw [nI_clamp (n := s) (by omega)]
    by_cases c : bt (d_fresh s) j = true
    · refine br_t ((pj_bit _ (by omega)).mpr c) ⟨hin, ?_⟩
      rw [nI_clamp (n := j) (by omega)]
      have hPr : ∀ s' p', (s' < s ∨ (s' = s ∧ p' < j + 1)) ↔ (s' < s ∨ (s' = s ∧ p' < j)) ∨ (s' = s ∧ p' = j) := fun s' p' => by omega
      have go : ∀ ds', (0 ≤ ds j → ds' = ds) → (¬ 0 ≤ ds j → ds' = upd ds j (nI r)) → wY_spread_40 post (wY_spread_2 post (nI s) (nI r) (d + 1)) (nI s) (nI r) (nI j) g_greatest g_poolSize g_count g_doing g_pc g_tall g_made g_forks g_bits d_ops d_args d_reached d_fresh (cm) (ds') d_stack d_locals d_fields := fun ds' h1 h2 => by
        refine my_goOn W (by omega) hs hO hG hmh hc (fun cm' hcm => nm_r (nI_1 j) ?_)
        exact ih (j + 1) cm' ds' (by omega) (pj_CIs I hr (by omega) ((hF j (by omega)).mpr c) hPr hcm h1 h2)
      by_cases c0 : 0 ≤ ds j
      · exact br_t c0 (go ds (fun _ => rfl) (fun z => absurd c0 z))
      · exact br_f c0 ⟨hin, nm_e (go _ (fun z => absurd z c0) (fun _ => rfl))⟩
    · refine br_f (fun z => c ((pj_bit _ (by omega)).mp z)) (nm_r (nI_1 j) ?_)
      refine ih (j + 1) cm ds (by omega) (pj_CIc I (fun s' p' hf => ?_))
      constructor
      · rintro (h | ⟨h1, h2⟩)
        · exact Or.inl h
        · by_cases e : p' = j
          · subst e
            subst h1
            exact absurd ((hF _ (by omega)).mp hf) c
          · exact Or.inr ⟨h1, by omega⟩
      · rintro (h | ⟨h1, h2⟩)
        · exact Or.inl h
        · exact Or.inr ⟨h1, by omega⟩
theorem my_round85 {post : Int32 → SY → Prop} {r : Nat} {any : Int32} {ds0 : Nat → Int32} (W : pj_PG n mh O G) (hr : r < 2 ^ 31) (hany : any = 0 ∨ any = 1) (hfn : ∀ s p, s < 1089 → bt (d_fresh s) p = true → p < n) (hO : d_ops = pj_nF O) (hG : d_args = G) (hmh : g_greatest = nI mh) (hc : g_count = nI n)
    (H : ∀ cm ds, pj_CI n mh O G r (fun s p => s < 1089 ∧ bt (d_fresh s) p = true) (fun s _ => s < 1089) ds0 cm ds → post any (g_greatest, g_poolSize, g_count, g_doing, g_pc, g_tall, g_made, g_forks, g_bits, d_ops, d_args, d_reached, d_fresh, cm, ds, d_stack, d_locals, d_fields)) :
    ∀ d i cm ds, i + d = 1089 → pj_CI n mh O G r (fun s p => s < 1089 ∧ bt (d_fresh s) p = true) (fun s _ => s < i) ds0 cm ds → wY_round_85 post (nI r) any (d + 1) (nI i) g_greatest g_poolSize g_count g_doing g_pc g_tall g_made g_forks g_bits d_ops d_args d_reached d_fresh (cm) (ds) d_stack d_locals d_fields := by
  have hn := W.1
  intro d
  induction d with
  | zero =>
    intro i cm ds hi I
    have e : i = 1089 := by omega
    subst e
    refine br_t (by decide) ⟨?_, H _ _ I⟩
    rcases hany with rfl | rfl <;> rfl
  | succ d ih =>
    intro i cm ds hi I
    refine br_f (nI_ge (b := 1089) (by omega) (by decide)) ⟨vp_in_nI (by omega) (by decide), ?_⟩
    rw [nI_clamp (by omega)]
    by_cases c : d_fresh i = 0
    · refine br_t c (nm_r (nI_1 i) (ih (i + 1) cm ds (by omega) (pj_CIc I (fun s p hf => ?_))))
      constructor
      · intro h
        by_cases e : s = i
        · subst e
          have := hf.2
          rw [c, b_0] at this
          exact absurd this (by decide)
        · show s < i
          omega
      · intro h
        show s < i + 1
        have h' : s < i := h
        omega
    · refine br_f c ⟨n + 1, ?_⟩
      refine my_spreadL (F := fun s p => s < 1089 ∧ bt (d_fresh s) p = true) W (by omega) hr (fun p _ => ⟨fun z => z.2, fun z => ⟨by omega, z⟩⟩) hO hG hmh hc (fun cm' ds' I' => nm_r (nI_1 i) (ih (i + 1) cm' ds' (by omega) (pj_CIc I' (fun s p hf => ?_)))) n 0 cm ds (by omega) (pj_CIc I (fun s p hf => ?_))
      · have := hfn s p hf.1 hf.2
        constructor
        · intro h
          have h' : s < i + 1 := h
          omega
        · intro h
          show s < i + 1
          omega
      · constructor
        · intro h
          show s < i
          omega
        · intro h
          have h' : s < i := h
          exact Or.inl h'
theorem my_round4 {post : Int32 → SY → Prop} {r : Nat} {rc0 cm0 : Nat → Int32}
    (H : ∀ any rc fr cm, (any = 0 ∨ any = 1) → (any = 0 ↔ ∀ s, s < 1089 → fr s = 0) → (∀ s, s < 1089 → fr s = cm0 s &&& (rc0 s ^^^ (-1)) ∧ rc s = rc0 s ||| fr s) → (∀ s, s < 1089 → cm s = 0) → ∃ m : Nat, wY_round_85 post (nI r) any m 0 g_greatest g_poolSize g_count g_doing g_pc g_tall g_made g_forks g_bits d_ops d_args (rc) (fr) (cm) d_dist d_stack d_locals d_fields) :
    ∀ d i any rc fr cm, i + d = 1089 → (any = 0 ∨ any = 1) → (any = 0 ↔ ∀ s, s < i → fr s = 0) → (∀ s, s < i → fr s = cm0 s &&& (rc0 s ^^^ (-1)) ∧ rc s = rc0 s ||| fr s) → (∀ s, s < i → cm s = 0) → (∀ s, i ≤ s → rc s = rc0 s ∧ cm s = cm0 s) → wY_round_4 post (nI r) g_greatest g_poolSize g_count g_doing g_pc g_tall g_made g_forks g_bits (d + 1) any (nI i) d_ops d_args (rc) (fr) (cm) d_dist d_stack d_locals d_fields := by
  intro d
  induction d with
  | zero =>
    intro i any rc fr cm hi h1 h2 h3 h4 h5
    have e : i = 1089 := by omega
    subst e
    exact br_t (by decide) (H any rc fr cm h1 h2 h3 h4)
  | succ d ih =>
    intro i any rc fr cm hi h1 h2 h3 h4 h5
    have hin := vp_in_nI (n := i) (N := 1089) (by omega) (by decide)
    obtain ⟨er, ec⟩ := h5 i (Nat.le_refl _)
    refine br_f (nI_ge (b := 1089) (by omega) (by decide)) ⟨hin, hin, hin, nm_e ⟨hin, nm_e ⟨hin, hin, hin, nm_e ?_⟩⟩⟩
    rw [nI_clamp (by omega), nI_1, pk_us, er, ec]
    generalize hv : cm0 i &&& (rc0 i ^^^ (-1)) = v
    have g3 : ∀ s, s < i + 1 → upd fr i v s = cm0 s &&& (rc0 s ^^^ (-1)) ∧ upd rc i (rc0 i ||| v) s = rc0 s ||| upd fr i v s := fun s hs => by
      by_cases e : s = i
      · subst e; rw [pk_us, pk_us]; exact ⟨hv.symm, rfl⟩
      · rw [pk_un e, pk_un e]; exact h3 s (by omega)
    have g4 : ∀ s, s < i + 1 → upd cm i 0 s = 0 := fun s hs => by
      by_cases e : s = i
      · subst e; rw [pk_us]
      · rw [pk_un e]; exact h4 s (by omega)
    have g5 : ∀ s, i + 1 ≤ s → upd rc i (rc0 i ||| v) s = rc0 s ∧ upd cm i 0 s = cm0 s := fun s hs => by
      rw [pk_un (by omega), pk_un (by omega)]; exact h5 s (by omega)
    have allz : (∀ s, s < i → fr s = 0) → v = 0 → ∀ s, s < i + 1 → upd fr i v s = 0 := fun a b s hs => by
      by_cases e : s = i
      · subst e; rw [pk_us]; exact b
      · rw [pk_un e]; exact a s (by omega)
    have allb : (∀ s, s < i + 1 → upd fr i v s = 0) → v = 0 ∧ ∀ s, s < i → fr s = 0 := fun a => ⟨by have := a i (by omega); rw [pk_us] at this; exact this, fun s hs => by have := a s (by omega); rw [pk_un (by omega)] at this; exact this⟩
    by_cases c : any = 0
    · refine br_t c ⟨hin, ?_⟩
      by_cases c2 : v = 0
      · exact br_t c2 (nm_e (ih (i + 1) 0 _ _ _ (by omega) (Or.inl rfl) ⟨fun _ => allz (h2.mp c) c2, fun _ => rfl⟩ g3 g4 g5))
      · exact br_f c2 (nm_e (ih (i + 1) 1 _ _ _ (by omega) (Or.inr rfl) ⟨fun z => absurd z (by decide), fun z => absurd (allb z).1 c2⟩ g3 g4 g5))
    · exact br_f c (nm_e (ih (i + 1) 1 _ _ _ (by omega) (Or.inr rfl) ⟨fun z => absurd z (by decide), fun z => absurd (h2.mpr (allb z).2) c⟩ g3 g4 g5))
theorem my_round {post : Int32 → SY → Prop} {r : Nat} (W : pj_PG n mh O G) (hr : r < 2 ^ 31) (hO : d_ops = pj_nF O) (hG : d_args = G) (hmh : g_greatest = nI mh) (hc : g_count = nI n) (I : pj_YI n mh O G r d_reached d_coming d_dist)
    (H : ∀ any rc fr cm ds, pj_YI n mh O G (r + 1) rc cm ds → (any = 0 → ∀ p s, ¬ pj_New n mh O G r p s) → (any ≠ 0 → ∃ p s, pj_New n mh O G r p s) → post any (g_greatest, g_poolSize, g_count, g_doing, g_pc, g_tall, g_made, g_forks, g_bits, d_ops, d_args, rc, fr, cm, ds, d_stack, d_locals, d_fields)) : wpY_round post (g_greatest, g_poolSize, g_count, g_doing, g_pc, g_tall, g_made, g_forks, g_bits, d_ops, d_args, d_reached, d_fresh, d_coming, d_dist, d_stack, d_locals, d_fields) (nI r) := by
  have hn := W.1
  refine ⟨1090, my_round4 (fun any rc fr cm h1 h2 h3 h4 => ⟨1090, ?_⟩) 1089 0 0 d_reached d_fresh d_coming (by omega) (Or.inl rfl) ⟨fun _ s hs => by omega, fun _ => rfl⟩ (fun s hs => by omega) (fun s hs => by omega) (fun s hs => ⟨rfl, rfl⟩)⟩
  have hA := (pj_YIs (cm' := cm) (ds' := d_dist) W hr I h3).1
  have hD : ∀ s p, s < 1089 → bt (fr s) p = true → p < n := fun s p hs h => by
    rcases Nat.lt_or_ge p 32 with hp | hp
    · exact (pj_Dlt W _ _ _ ((hA s p hs hp).mp h).1).1
    · rw [b_big hp] at h
      exact absurd h (by decide)
  refine my_round85 W hr h1 hD hO hG hmh hc (fun cm' ds' C => ?_) 1089 0 cm d_dist (by omega) ⟨fun s' p' hs hp => ?_, fun p hp => ⟨fun ⟨_, s, z, _⟩ => absurd z (by omega), fun _ => rfl⟩⟩
  · refine H any rc fr cm' ds' ((pj_YIs W hr I h3).2 C) (fun h0 p s hN => ?_) (fun h0 => ?_)
    · have hl := pj_Dlt W _ _ _ hN.1
      have := (hA s p hl.2 (by omega)).mpr hN
      rw [h2.mp h0 s hl.2, b_0] at this
      exact absurd this (by decide)
    · refine Classical.byContradiction (fun z => h0 (h2.mpr (fun s hs => ?_)))
      apply b_ext
      intro p hp
      rw [b_0]
      cases hb : bt (fr s) p
      · rfl
      · exact absurd ⟨p, s, (hA s p hs hp).mp hb⟩ z
  · rw [h4 s' hs, b_0]
    exact ⟨fun z => absurd z (by decide), fun ⟨s, p, z, _⟩ => absurd z (by omega)⟩
theorem my_judge69 {post : SY → Prop} (W : pj_PG n mh O G) (hO : d_ops = pj_nF O) (hG : d_args = G) (hmh : g_greatest = nI mh) (hc : g_count = nI n)
    (H : ∀ rc fr cm ds, pj_CY n mh O G rc ds → post (g_greatest, g_poolSize, g_count, g_doing, g_pc, g_tall, g_made, g_forks, g_bits, d_ops, d_args, rc, fr, cm, ds, d_stack, d_locals, d_fields)) :
    ∀ d r more rc fr cm ds, r + d = 17500 → pj_YI n mh O G r rc cm ds → (more ≠ 0 → ∀ r', r' < r → ∃ p s, pj_New n mh O G r' p s) → (more = 0 → ∃ r', r = r' + 1 ∧ ∀ p s, ¬ pj_New n mh O G r' p s) → wY_judge_69 post (d + 1) more (nI r) g_greatest g_poolSize g_count g_doing g_pc g_tall g_made g_forks g_bits d_ops d_args (rc) (fr) (cm) (ds) d_stack d_locals d_fields := by
  intro d
  have fin : ∀ r rc fr cm ds, pj_YI n mh O G r rc cm ds → (∃ r', r = r' + 1 ∧ ∀ p s, ¬ pj_New n mh O G r' p s) → post (g_greatest, g_poolSize, g_count, g_doing, g_pc, g_tall, g_made, g_forks, g_bits, d_ops, d_args, rc, fr, cm, ds, d_stack, d_locals, d_fields) := fun r rc fr cm ds I ⟨r', e, h⟩ => by
    subst e
    exact H rc fr cm ds (pj_YIe I h)
  have bound : ∀ r, (∀ r', r' < r → ∃ p s, pj_New n mh O G r' p s) → r ≤ 17424 := fun r h => Nat.le_trans (pj_cnt W r h) (pj_cple _ _)
  induction d with
  | zero =>
    intro r more rc fr cm ds hr I h1 h2
    have e : r = 17500 := by omega
    by_cases c : more = 0
    · subst e
      exact br_t (by decide) (fin _ _ _ _ _ I (h2 c))
    · have := bound r (h1 c)
      omega
  | succ d ih =>
    intro r more rc fr cm ds hr I h1 h2
    refine br_f (nI_ge (b := 17500) (by omega) (by decide)) ?_
    by_cases c : more = 0
    · exact br_t c (fin _ _ _ _ _ I (h2 c))
    · refine br_f c ?_
      refine my_round W (by omega) hO hG hmh hc I (fun any rc' fr' cm' ds' I' a1 a2 => nm_r (nI_1 r) ?_)
      refine ih (r + 1) any rc' fr' cm' ds' (by omega) I' (fun z r' hr' => ?_) (fun z => ⟨r, rfl, a1 z⟩)
      rcases Nat.lt_or_ge r' r with h | h
      · exact h1 c r' h
      · have e : r' = r := by omega
        subst e
        exact a2 z
theorem my_judge31 {post : SY → Prop} (W : pj_PG n mh O G) (hO : d_ops = pj_nF O) (hG : d_args = G) (hmh : g_greatest = nI mh) (hc : g_count = nI n) (hrc : ∀ s, s < 1089 → d_reached s = 0 ∧ d_coming s = 0)
    (H : ∀ rc fr cm ds, pj_CY n mh O G rc ds → post (g_greatest, g_poolSize, g_count, g_doing, g_pc, g_tall, g_made, g_forks, g_bits, d_ops, d_args, rc, fr, cm, ds, d_stack, d_locals, d_fields)) :
    ∀ d i ds, i + d = 16 → (∀ p, p < i → ds p = -1) → wY_judge_31 post g_greatest g_poolSize g_count g_doing g_pc g_tall g_made g_forks g_bits (d + 1) (nI i) d_ops d_args d_reached d_fresh d_coming (ds) d_stack d_locals d_fields := by
  have hn := W.1
  have n0 : ¬ (false = true) := by decide
  intro d
  induction d with
  | zero =>
    intro i ds hi hd
    have e : i = 16 := by omega
    subst e
    have go : ∀ cm, (∀ s p, s < 1089 → p < 32 → (bt (cm s) p = true ↔ 0 < n ∧ p = 0 ∧ s = 8)) → ∃ n69 : Nat, wY_judge_69 post n69 1 0 g_greatest g_poolSize g_count g_doing g_pc g_tall g_made g_forks g_bits d_ops d_args d_reached d_fresh (cm) (ds) d_stack d_locals d_fields := fun cm hcm => by
      refine ⟨17501, my_judge69 W hO hG hmh hc H 17500 0 1 _ _ _ _ (by omega) ⟨fun s p hs hp => ?_, fun s p hs hp h => (hcm s p hs hp).mp h, fun s p h => ?_, fun p hp => Or.inl ⟨hd p hp, fun k hk => by omega⟩⟩ (fun _ r' hr' => by omega) (fun z => absurd z (by decide))⟩
      · rw [(hrc s hs).1, b_0]
        exact ⟨fun z => absurd z n0, fun ⟨k, hk, _⟩ => by omega⟩
      · obtain ⟨h1, rfl, rfl⟩ := h
        exact Or.inl ((hcm 8 0 (by omega) (by omega)).mpr ⟨h1, rfl, rfl⟩)
    refine br_t (by decide) ?_
    refine pk_le n 0 (fun h => go _ (fun s p hs hp => ?_)) (fun h => nm_e (go _ (fun s p hs hp => ?_))) hc rfl
    · rw [(hrc s hs).2, b_0]
      exact ⟨fun z => absurd z n0, fun z => by omega⟩
    · by_cases e : s = 8
      · subst e
        rw [pk_us, pj_b1 p hp, decide_eq_true_iff]
        exact ⟨fun z => ⟨h, z, rfl⟩, fun z => z.2.1⟩
      · rw [pk_un e, (hrc s hs).2, b_0]
        exact ⟨fun z => absurd z n0, fun z => absurd z.2.2 e⟩
  | succ d ih =>
    intro i ds hi hd
    refine br_f (nI_ge (b := 16) (by omega) (by decide)) ⟨vp_in_nI (by omega) (by decide), nm_e (nm_r (nI_1 i) ?_)⟩
    rw [nI_clamp (by omega)]
    refine ih (i + 1) _ (by omega) (fun p hp => ?_)
    by_cases e : p = i
    · subst e; rw [pk_us]
    · rw [pk_un e]; exact hd p (by omega)
theorem my_judge2 {post : SY → Prop} (W : pj_PG n mh O G) (hO : d_ops = pj_nF O) (hG : d_args = G) (hmh : g_greatest = nI mh) (hc : g_count = nI n)
    (H : ∀ rc fr cm ds, pj_CY n mh O G rc ds → post (g_greatest, g_poolSize, g_count, g_doing, g_pc, g_tall, g_made, g_forks, g_bits, d_ops, d_args, rc, fr, cm, ds, d_stack, d_locals, d_fields)) :
    ∀ d i rc cm, i + d = 1089 → (∀ s, s < i → rc s = 0 ∧ cm s = 0) → wY_judge_2 post g_greatest g_poolSize g_count g_doing g_pc g_tall g_made g_forks g_bits (d + 1) (nI i) d_ops d_args (rc) d_fresh (cm) d_dist d_stack d_locals d_fields := by
  intro d
  induction d with
  | zero =>
    intro i rc cm hi h
    have e : i = 1089 := by omega
    subst e
    exact br_t (by decide) ⟨17, my_judge31 W hO hG hmh hc h H 16 0 _ (by omega) (fun p hp => by omega)⟩
  | succ d ih =>
    intro i rc cm hi h
    have hin := vp_in_nI (n := i) (N := 1089) (by omega) (by decide)
    refine br_f (nI_ge (b := 1089) (by omega) (by decide)) ⟨hin, nm_e ⟨hin, nm_e (nm_r (nI_1 i) ?_)⟩⟩
    rw [nI_clamp (by omega)]
    refine ih (i + 1) _ _ (by omega) (fun s hs => ?_)
    by_cases e : s = i
    · subst e; rw [pk_us, pk_us]; exact ⟨rfl, rfl⟩
    · rw [pk_un e, pk_un e]; exact h s (by omega)
theorem my_judge {post : SY → Prop} (W : pj_PG n mh O G) (hO : d_ops = pj_nF O) (hG : d_args = G) (hmh : g_greatest = nI mh) (hc : g_count = nI n)
    (H : ∀ rc fr cm ds, pj_CY n mh O G rc ds → post (g_greatest, g_poolSize, g_count, g_doing, g_pc, g_tall, g_made, g_forks, g_bits, d_ops, d_args, rc, fr, cm, ds, d_stack, d_locals, d_fields)) : wpY_judge post (g_greatest, g_poolSize, g_count, g_doing, g_pc, g_tall, g_made, g_forks, g_bits, d_ops, d_args, d_reached, d_fresh, d_coming, d_dist, d_stack, d_locals, d_fields) :=
  ⟨1090, my_judge2 W hO hG hmh hc H 1089 0 _ _ (by omega) (fun s hs => by omega)⟩
end
