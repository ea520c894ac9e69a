/-! the pure picture: a situation is a position p and a number s = (stack number) * 9 + (kind of variable 0) * 3 + (kind of variable 1) -/
def pj_hg (v : Nat) : Nat := if v < 1 then 0 else if v < 4 then 1 else if v < 13 then 2 else if v < 40 then 3 else 4
def pj_nd (o : Nat) : Nat := if o = 4 ∨ o = 5 ∨ o = 7 ∨ o = 12 then 2 else if o = 2 ∨ o = 3 ∨ o = 6 ∨ o = 9 ∨ o = 13 then 1 else 0
def pj_sk (mh o s : Nat) : Nat := if pj_hg (s / 9) < pj_nd o then 1 else if (o = 0 ∨ o = 1 ∨ o = 3 ∨ o = 8) ∧ mh ≤ pj_hg (s / 9) then 2 else 0
def pj_tp (v : Nat) : Nat := (v - 1) % 3
def pj_rs (v : Nat) : Nat := (v - 1) / 3
def pj_chv (o : Nat) (z : Bool) (v a b : Nat) : Nat :=
  if o = 0 then v * 3 + 1
  else if o = 1 then v * 3 + 2
  else if o = 2 then pj_rs v
  else if o = 3 then v * 3 + pj_tp v + 1
  else if o = 4 then (pj_rs (pj_rs v) * 3 + pj_tp v + 1) * 3 + pj_tp (pj_rs v) + 1
  else if o = 5 ∨ o = 12 then pj_rs (pj_rs v) * 3 + 1
  else if o = 6 then pj_rs v * 3 + 1
  else if o = 7 then pj_rs (pj_rs v)
  else if o = 8 then v * 3 + (if z then a else b) + 1
  else if o = 9 then pj_rs v
  else v
def pj_cha (o : Nat) (z : Bool) (v a : Nat) : Nat := if o = 9 then (if z then pj_tp v else a) else a
def pj_chb (o : Nat) (z : Bool) (v b : Nat) : Nat := if o = 9 then (if z then b else pj_tp v) else b
def pj_ch (o : Nat) (z : Bool) (s : Nat) : Nat :=
  pj_chv o z (s / 9) (s / 3 % 3) (s % 3) * 9 + pj_cha o z (s / 9) (s / 3 % 3) * 3 + pj_chb o z (s / 9) (s % 3)
def pj_kb (o a b : Nat) : Bool := decide ((o = 5 ∧ (a ≠ 0 ∨ b ≠ 0)) ∨ (o = 6 ∧ a ≠ 1) ∨ (o = 7 ∧ (a ≠ 0 ∨ b ≠ 1)) ∨ (o = 12 ∧ (a ≠ 1 ∨ b ≠ 1)) ∨ (o = 13 ∧ a ≠ 0))
def pj_lv (n o p : Nat) (g : Int32) : Bool := decide (((o = 10 ∨ o = 11) ∧ (g < 0 ∨ nI n ≤ g)) ∨ (o ≠ 10 ∧ o ≠ 13 ∧ n ≤ p + 1))
def pj_fl (n mh o p : Nat) (g : Int32) (s : Nat) : Nat := if pj_sk mh o s ≠ 0 then pj_sk mh o s else (if pj_kb o (pj_tp (s / 9)) (pj_tp (pj_rs (s / 9))) then 4 else 0) + (if pj_lv n o p g then 8 else 0)
/-- one step of the checker from (p, s) to (q, t) -/
def pj_St (n mh : Nat) (O : Nat → Nat) (G : Nat → Int32) (p s q t : Nat) : Prop :=
  q < n ∧ pj_sk mh (O p) s = 0 ∧ t = pj_ch (O p) (decide (G p = 0)) s ∧ (((O p = 10 ∨ O p = 11) ∧ G p = nI q) ∨ (O p ≠ 10 ∧ O p ≠ 13 ∧ q = p + 1))
/-- (p, s) is reached in k steps -/
def pj_D (n mh : Nat) (O : Nat → Nat) (G : Nat → Int32) : Nat → Nat → Nat → Prop
  | 0 => fun p s => 0 < n ∧ p = 0 ∧ s = 8
  | k + 1 => fun p s => ∃ p' s', pj_D n mh O G k p' s' ∧ pj_St n mh O G p' s' p s
def pj_Rc (n mh : Nat) (O : Nat → Nat) (G : Nat → Int32) (p s : Nat) : Prop := ∃ k, pj_D n mh O G k p s
/-- the program is well made -/
def pj_PG (n mh : Nat) (O : Nat → Nat) (G : Nat → Int32) : Prop :=
  n ≤ 16 ∧ 1 ≤ mh ∧ mh ≤ 4 ∧ (∀ p, p < n → O p ≤ 13) ∧ (∀ p, p < n → (O p = 8 ∨ O p = 9) → (G p = 0 ∨ G p = 1))
theorem pj_o14 {o : Nat} (h : o ≤ 13) : o = 0 ∨ o = 1 ∨ o = 2 ∨ o = 3 ∨ o = 4 ∨ o = 5 ∨ o = 6 ∨ o = 7 ∨ o = 8 ∨ o = 9 ∨ o = 10 ∨ o = 11 ∨ o = 12 ∨ o = 13 := by omega
theorem pj_hg40 {v : Nat} (h : pj_hg v < 4) : v < 40 := by
  unfold pj_hg at h
  (repeat' split at h) <;> omega
theorem pj_hg1 {v : Nat} (h : 1 ≤ pj_hg v) : 0 < v := by
  unfold pj_hg at h
  split at h <;> omega
theorem pj_hg2 {v : Nat} (h : 2 ≤ pj_hg v) : 4 ≤ v := by
  unfold pj_hg at h
  (repeat' split at h) <;> omega
theorem pj_hgle (v : Nat) : pj_hg v ≤ 4 := by
  unfold pj_hg
  (repeat' split) <;> omega
theorem pj_sk0 {mh o s : Nat} (h : pj_sk mh o s = 0) : pj_nd o ≤ pj_hg (s / 9) ∧ ((o = 0 ∨ o = 1 ∨ o = 3 ∨ o = 8) → pj_hg (s / 9) < mh) := by
  unfold pj_sk at h
  split at h
  · omega
  · split at h
    · omega
    · rename_i h1 h2
      exact ⟨by omega, fun z => by
        rcases Nat.lt_or_ge (pj_hg (s / 9)) mh with h3 | h3
        · exact h3
        · exact absurd ⟨z, h3⟩ h2⟩
theorem pj_chv_lt {mh o : Nat} {z : Bool} {v a b : Nat} (hv : v < 121) (ha : a < 3) (hb : b < 3) (hm : mh ≤ 4) (hg : (o = 0 ∨ o = 1 ∨ o = 3 ∨ o = 8) → pj_hg v < mh) : pj_chv o z v a b < 121 := by
  have h40 : (o = 0 ∨ o = 1 ∨ o = 3 ∨ o = 8) → v < 40 := fun q => pj_hg40 (by have := hg q; omega)
  have hab : (if z then a else b) < 3 := by split <;> assumption
  unfold pj_chv pj_rs pj_tp
  generalize (if z = true then a else b) = c at *
  split
  · have := h40 (by omega); omega
  · split
    · have := h40 (by omega); omega
    · split
      · omega
      · split
        · have := h40 (by omega); omega
        · split
          · omega
          · split
            · omega
            · split
              · omega
              · split
                · omega
                · split
                  · have := h40 (by omega); omega
                  · split <;> omega
theorem pj_cha_lt {o : Nat} {z : Bool} {v a : Nat} (ha : a < 3) : pj_cha o z v a < 3 := by
  unfold pj_cha pj_tp
  split
  · split
    · omega
    · exact ha
  · exact ha
theorem pj_chb_lt {o : Nat} {z : Bool} {v b : Nat} (hb : b < 3) : pj_chb o z v b < 3 := by
  unfold pj_chb pj_tp
  split
  · split
    · exact hb
    · omega
  · exact hb
theorem pj_ch_v {o : Nat} {z : Bool} {s : Nat} : pj_ch o z s / 9 = pj_chv o z (s / 9) (s / 3 % 3) (s % 3) ∧ pj_ch o z s / 3 % 3 = pj_cha o z (s / 9) (s / 3 % 3) ∧ pj_ch o z s % 3 = pj_chb o z (s / 9) (s % 3) := by
  have h1 := pj_cha_lt (o := o) (z := z) (v := s / 9) (a := s / 3 % 3) (by omega)
  have h2 := pj_chb_lt (o := o) (z := z) (v := s / 9) (b := s % 3) (by omega)
  unfold pj_ch
  generalize pj_chv o z (s / 9) (s / 3 % 3) (s % 3) = v' at *
  generalize pj_cha o z (s / 9) (s / 3 % 3) = a' at *
  generalize pj_chb o z (s / 9) (s % 3) = b' at *
  omega
theorem pj_ch_lt {mh o : Nat} {z : Bool} {s : Nat} (hs : s < 1089) (hm : mh ≤ 4) (h : pj_sk mh o s = 0) : pj_ch o z s < 1089 := by
  have h0 := pj_chv_lt (mh := mh) (o := o) (z := z) (v := s / 9) (a := s / 3 % 3) (b := s % 3) (by omega) (by omega) (by omega) hm (pj_sk0 h).2
  have h3 := pj_ch_v (o := o) (z := z) (s := s)
  omega
theorem pj_Dlt {n mh : Nat} {O : Nat → Nat} {G : Nat → Int32} (W : pj_PG n mh O G) : ∀ k p s, pj_D n mh O G k p s → p < n ∧ s < 1089 := by
  intro k
  induction k with
  | zero => intro p s h; obtain ⟨h1, rfl, rfl⟩ := h; exact ⟨h1, by omega⟩
  | succ k ih =>
    intro p s h
    obtain ⟨p', s', h1, h2, h3, rfl, _⟩ := h
    exact ⟨h2, pj_ch_lt (ih _ _ h1).2 W.2.2.1 h3⟩
theorem pj_Rlt {n mh : Nat} {O : Nat → Nat} {G : Nat → Int32} (W : pj_PG n mh O G) {p s : Nat} (h : pj_Rc n mh O G p s) : p < n ∧ s < 1089 := by
  obtain ⟨k, hk⟩ := h
  exact pj_Dlt W k p s hk
/-! digits of a stack number, from the bottom -/
def pj_pp : Nat → Nat → Nat
  | 0, v => v
  | k + 1, v => pj_pp k ((v - 1) / 3)
def pj_dg (v i : Nat) : Nat := (pj_pp (pj_hg v - 1 - i) v - 1) % 3
def pj_fo (v : Nat) : Nat → Nat → Nat
  | 0, x => x
  | i + 1, x => pj_fo v i (x * 3 + 1 + pj_dg v i)
def pj_xr (v : Nat) : Nat := pj_fo v (pj_hg v) 0
theorem pj_dg3 (v i : Nat) : pj_dg v i < 3 := by unfold pj_dg; omega
theorem pj_xr121 : ∀ v, v < 121 → pj_xr v < 121 ∧ pj_xr (pj_xr v) = v := by decide +kernel
theorem pj_take : ∀ v, v < 121 → ∀ i, i < 4 → i < pj_hg v → 0 < pj_pp i (pj_xr v) ∧ (pj_pp i (pj_xr v) - 1) % 3 = pj_dg v i := by decide +kernel
theorem pj_take0 : ∀ v, v < 121 → pj_pp (pj_hg v) (pj_xr v) = 0 := by decide +kernel
theorem pj_pplt : ∀ k v, pj_pp k v ≤ v := by
  intro k
  induction k with
  | zero => intro v; exact Nat.le_refl v
  | succ k ih => intro v; have := ih ((v - 1) / 3); show pj_pp k ((v - 1) / 3) ≤ v; omega
theorem pj_pps : ∀ k v, pj_pp (k + 1) v = (pj_pp k v - 1) / 3 := by
  intro k
  induction k with
  | zero => intro v; rfl
  | succ k ih => intro v; exact ih ((v - 1) / 3)
theorem pj_psh : ∀ v, v < 40 → ∀ k, k < 3 → pj_hg (v * 3 + k + 1) = pj_hg v + 1 ∧ pj_dg (v * 3 + k + 1) (pj_hg v) = k ∧ ∀ i, i < 4 → i < pj_hg v → pj_dg (v * 3 + k + 1) i = pj_dg v i := by decide +kernel
theorem pj_pop : ∀ v, v < 121 → 0 < v → pj_hg ((v - 1) / 3) + 1 = pj_hg v ∧ pj_dg v (pj_hg v - 1) = (v - 1) % 3 ∧ ∀ i, i < 4 → i < pj_hg ((v - 1) / 3) → pj_dg ((v - 1) / 3) i = pj_dg v i := by decide +kernel
/-! the component's number of a situation -/
def pj_xn (p s : Nat) : Nat := (p * 121 + pj_xr (s / 9)) * 9 + s % 9
def pj_yp (N : Nat) : Nat := N / 1089
def pj_ys (N : Nat) : Nat := pj_xr (N / 9 % 121) * 9 + N % 9
theorem pj_xnlt {p s : Nat} (hp : p < 16) (hs : s < 1089) : pj_xn p s < 17424 := by
  have := (pj_xr121 (s / 9) (by omega)).1
  unfold pj_xn
  omega
theorem pj_ypx {p s : Nat} (hs : s < 1089) : pj_yp (pj_xn p s) = p := by
  have := (pj_xr121 (s / 9) (by omega)).1
  unfold pj_yp pj_xn
  omega
theorem pj_ysx {p s : Nat} (hs : s < 1089) : pj_ys (pj_xn p s) = s := by
  have h1 := pj_xr121 (s / 9) (by omega)
  have e : pj_xn p s / 9 % 121 = pj_xr (s / 9) := by unfold pj_xn; omega
  have e2 : pj_xn p s % 9 = s % 9 := by unfold pj_xn; omega
  unfold pj_ys
  rw [e, e2, h1.2]
  omega
theorem pj_ysl (N : Nat) : pj_ys N < 1089 := by
  have h1 := (pj_xr121 (N / 9 % 121) (by omega)).1
  unfold pj_ys
  omega
theorem pj_xny (N : Nat) : pj_xn (pj_yp N) (pj_ys N) = N := by
  have h1 := pj_xr121 (N / 9 % 121) (by omega)
  have e : pj_ys N / 9 = pj_xr (N / 9 % 121) := by unfold pj_ys; omega
  have e2 : pj_ys N % 9 = N % 9 := by unfold pj_ys; omega
  unfold pj_xn
  rw [e, e2, h1.2]
  unfold pj_yp
  omega
theorem pj_ypl {N : Nat} (h : N < 17424) : pj_yp N < 16 := by unfold pj_yp; omega
/-! counting -/
noncomputable def pj_cp (A : Nat → Prop) : Nat → Nat
  | 0 => 0
  | k + 1 => pj_cp A k + @ite Nat (A k) (Classical.propDecidable _) 1 0
theorem pj_cp1 {A : Nat → Prop} {k : Nat} (h : A k) : pj_cp A (k + 1) = pj_cp A k + 1 := by
  show pj_cp A k + @ite Nat (A k) (Classical.propDecidable _) 1 0 = _
  rw [if_pos h]
theorem pj_cp0 {A : Nat → Prop} {k : Nat} (h : ¬ A k) : pj_cp A (k + 1) = pj_cp A k := by
  show pj_cp A k + @ite Nat (A k) (Classical.propDecidable _) 1 0 = _
  rw [if_neg h]
  rfl
theorem pj_cple (A : Nat → Prop) : ∀ k, pj_cp A k ≤ k := by
  intro k
  induction k with
  | zero => exact Nat.le_refl 0
  | succ k ih =>
    rcases Classical.em (A k) with h | h
    · rw [pj_cp1 h]; omega
    · rw [pj_cp0 h]; omega
theorem pj_cpm {A B : Nat → Prop} : ∀ k, (∀ i, i < k → A i → B i) → pj_cp A k ≤ pj_cp B k := by
  intro k
  induction k with
  | zero => intro _; exact Nat.le_refl 0
  | succ k ih =>
    intro H
    have h1 := ih (fun i hi => H i (by omega))
    rcases Classical.em (A k) with h | h
    · rw [pj_cp1 h, pj_cp1 (H k (by omega) h)]; omega
    · rw [pj_cp0 h]
      rcases Classical.em (B k) with h' | h'
      · rw [pj_cp1 h']; omega
      · rw [pj_cp0 h']; omega
theorem pj_cps {A B : Nat → Prop} {N : Nat} (hB : B N) (hA : ¬ A N) : ∀ k, N < k → (∀ i, i < k → A i → B i) → pj_cp A k + 1 ≤ pj_cp B k := by
  intro k
  induction k with
  | zero => intro h; omega
  | succ k ih =>
    intro hN H
    rcases Nat.lt_or_ge N k with h | h
    · have h1 := ih h (fun i hi => H i (by omega))
      rcases Classical.em (A k) with h | h
      · rw [pj_cp1 h, pj_cp1 (H k (by omega) h)]; omega
      · rw [pj_cp0 h]
        rcases Classical.em (B k) with h' | h'
        · rw [pj_cp1 h']; omega
        · rw [pj_cp0 h']; omega
    · have e : N = k := by omega
      subst e
      have h1 := pj_cpm (A := A) (B := B) N (fun i hi => H i (by omega))
      rw [pj_cp0 hA, pj_cp1 hB]
      omega
theorem pj_cpf {A : Nat → Prop} {N k : Nat} (hN : N < k) (hA : ¬ A N) : pj_cp A k + 1 ≤ k := by
  have h1 := pj_cps (A := A) (B := fun _ => True) trivial hA k hN (fun _ _ _ => trivial)
  have h2 := pj_cple (fun _ => True) k
  omega
/-! the least number of steps to a position -/
def pj_DS (n mh : Nat) (O : Nat → Nat) (G : Nat → Int32) (p : Nat) (d : Int32) : Prop :=
  (d = -1 ∧ ∀ k s, ¬ pj_D n mh O G k p s) ∨ (∃ k, d = nI k ∧ (∃ s, pj_D n mh O G k p s) ∧ ∀ k' s, pj_D n mh O G k' p s → k ≤ k')
theorem pj_DSu {n mh : Nat} {O : Nat → Nat} {G : Nat → Int32} {p : Nat} {d e : Int32} (h : pj_DS n mh O G p d) (h' : pj_DS n mh O G p e) : d = e := by
  rcases h with ⟨rfl, h1⟩ | ⟨k, rfl, ⟨s, h1⟩, h2⟩
  · rcases h' with ⟨rfl, _⟩ | ⟨k', rfl, ⟨s', h1'⟩, _⟩
    · rfl
    · exact absurd h1' (h1 _ _)
  · rcases h' with ⟨rfl, h1'⟩ | ⟨k', rfl, ⟨s', h1'⟩, h2'⟩
    · exact absurd h1 (h1' _ _)
    · have a := h2 _ _ h1'
      have b := h2' _ _ h1
      rw [Nat.le_antisymm a b]
/-- of which kind a cell is: place pl at height h in situation s -/
def pj_Kd (s h pl b : Nat) : Prop := (pl < h ∧ pj_dg (s / 9) pl = b) ∨ (pl = 4 ∧ s / 3 % 3 = b) ∨ (pl = 5 ∧ s % 3 = b)
def pj_nF (Q : Nat → Nat) : Nat → Int32 := fun j => nI (Q j)
def pj_uN (Q : Nat → Nat) (k x : Nat) : Nat → Nat := fun j => if j = k then x else Q j
theorem pj_nFu (Q : Nat → Nat) (k x : Nat) : upd (pj_nF Q) k (nI x) = pj_nF (pj_uN Q k x) := by
  funext j
  show (if j = k then nI x else nI (Q j)) = nI (if j = k then x else Q j)
  split <;> rfl
theorem pj_uNs {Q : Nat → Nat} {k x : Nat} : pj_uN Q k x k = x := if_pos rfl
theorem pj_uNn {Q : Nat → Nat} {k x j : Nat} (h : j ≠ k) : pj_uN Q k x j = Q j := if_neg h
def pj_or (f : Nat → Int32) (p : Nat) (x : Int32) : Nat → Int32 := upd f p (f p ||| x)
