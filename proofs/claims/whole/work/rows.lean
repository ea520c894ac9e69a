section
theorem pk_us {f : Nat → Int32} {k : Nat} {x : Int32} : upd f k x k = x := if_pos rfl
theorem pk_un {f : Nat → Int32} {k j : Nat} {x : Int32} (h : j ≠ k) : upd f k x j = f j := if_neg h
theorem pk_sub {a b : Nat} (h : b ≤ a) : nI a - nI b = nI (a - b) := by
  obtain ⟨c, rfl⟩ : ∃ c, a = c + b := ⟨a - b, by omega⟩
  rw [← nI_add, Int32.add_sub_cancel, Nat.add_sub_cancel]
theorem pk_m1 (n : Nat) : nI (n + 1) + (-1) = nI n := by
  rw [← nI_1, Int32.add_assoc, show (1 : Int32) + (-1) = 0 from rfl, Int32.add_zero]
theorem pk_mul (a b : Nat) : nI a * nI b = nI (a * b) := (Int32.ofNat_mul a b).symm
theorem pk_div {a d : Nat} (ha : a < 2 ^ 31) (h0 : 0 < d) (hd : d < 2 ^ 31) : nI a / nI d = nI (a / d) := by
  apply Int32.toInt_inj.mp
  rw [lg_idiv_nonneg (by rw [nI_toInt ha]; omega) (by rw [nI_toInt hd]; omega), nI_toInt ha, nI_toInt hd, nI_toInt (Nat.lt_of_le_of_lt (Nat.div_le_self a d) ha)]
  first | rfl | exact (Int.natCast_ediv _ _).symm
theorem pk_rem {a d : Nat} (ha : a < 2 ^ 31) (h0 : 0 < d) (hd : d < 2 ^ 31) : nI a - nI a / nI d * nI d = nI (a % d) := by
  rw [pk_div ha h0 hd, pk_mul, pk_sub (Nat.div_mul_le_self a d)]
  exact congrArg nI (by have := Nat.div_add_mod' a d; omega)
theorem pk_sub_toInt {a b : Nat} (ha : a < 2 ^ 30) (hb : b < 2 ^ 30) : (nI a - nI b).toInt = (a : Int) - b := by
  rw [Int32.toInt_sub, nI_toInt (by omega), nI_toInt (by omega)]
  exact Int.bmod_eq_of_le (by omega) (by omega)
theorem pk_sneg {a b : Nat} (hb : b < 2 ^ 30) (h : a < b) : nI a - nI b < 0 := by
  rw [Int32.lt_iff_toInt_lt, pk_sub_toInt (by omega) hb, show (0 : Int32).toInt = 0 from by decide]
  omega
theorem pk_ix (x : Int32) {n : Nat} (hn : n < 2 ^ 31) : x < 0 ∨ nI n ≤ x ∨ ∃ j : Nat, j < n ∧ x = nI j := by
  by_cases h : x < 0
  · exact Or.inl h
  · obtain ⟨j, hj, rfl⟩ := nI_of h
    by_cases h2 : j < n
    · exact Or.inr (Or.inr ⟨j, h2, rfl⟩)
    · exact Or.inr (Or.inl (nI_le (by omega) hj))
theorem pk_le {x y : Int32} {A B : Prop} (a b : Nat) (f : a ≤ b → A) (g : b < a → B) (hx : x = nI a := by rfl) (hy : y = nI b := by rfl) (ha : a < 2 ^ 31 := by omega) (hb : b < 2 ^ 31 := by omega) : (x ≤ y → A) ∧ (¬ x ≤ y → B) := by
  subst hx hy
  rw [nI_leI ha hb]
  exact ⟨f, fun z => g (by omega)⟩
theorem pk_lt {x y : Int32} {A B : Prop} (a b : Nat) (f : a < b → A) (g : b ≤ a → B) (hx : x = nI a := by rfl) (hy : y = nI b := by rfl) (ha : a < 2 ^ 31 := by omega) (hb : b < 2 ^ 31 := by omega) : (x < y → A) ∧ (¬ x < y → B) := by
  subst hx hy
  rw [nI_ltI ha hb]
  exact ⟨f, fun z => g (by omega)⟩
theorem pk_eq {x y : Int32} {A B : Prop} (a b : Nat) (f : a = b → A) (g : a ≠ b → B) (hx : x = nI a := by rfl) (hy : y = nI b := by rfl) (ha : a < 2 ^ 31 := by omega) (hb : b < 2 ^ 31 := by omega) : (x = y → A) ∧ (¬ x = y → B) := by
  subst hx hy
  rw [nI_eq ha hb]
  exact ⟨f, g⟩
theorem pk_in {x : Int32} (n N : Nat) (h : n < N) (hx : x = nI n := by rfl) (hN : N < 2 ^ 31 := by omega) : vp_in x N := by
  subst hx
  exact vp_in_nI h hN
theorem pk_cl {x : Int32} (n : Nat) (hx : x = nI n := by rfl) (h : n < 2 ^ 31 := by omega) : x.toNatClampNeg = n := by
  subst hx
  exact nI_clamp h
theorem pk_tn {n : Nat} (h : n < 2 ^ 32) : (nI n).toBitVec.toNat = n := Nat.mod_eq_of_lt h
theorem pk_and (x : Int32) {m : Int32} (k : Nat) (hm : m.toBitVec.toNat = 2 ^ k - 1) : x &&& m = nI (x.toBitVec.toNat % 2 ^ k) := by
  apply Int32.toBitVec_inj.mp
  apply BitVec.eq_of_toNat_eq
  rw [Int32.toBitVec_and, BitVec.toNat_and, hm, Nat.and_two_pow_sub_one_eq_mod]
  show _ = (BitVec.ofNat 32 _).toNat
  rw [BitVec.toNat_ofNat]
  exact (Nat.mod_eq_of_lt (Nat.lt_of_le_of_lt (Nat.mod_le _ _) x.toBitVec.isLt)).symm
theorem pk_andN {n : Nat} (h : n < 2 ^ 32) {m : Int32} (k : Nat) (hm : m.toBitVec.toNat = 2 ^ k - 1) : nI n &&& m = nI (n % 2 ^ k) := by
  rw [pk_and _ k hm, pk_tn h]
theorem pk_andE (x : Int32) {m : Int32} (k : Nat) (hm : m.toBitVec.toNat = 2 ^ k - 1) : ∃ j : Nat, j < 2 ^ k ∧ x &&& m = nI j := ⟨_, Nat.mod_lt _ (Nat.two_pow_pos k), pk_and x k hm⟩
theorem pk_andIn (x : Int32) {m : Int32} (k : Nat) (hm : m.toBitVec.toNat = 2 ^ k - 1) (hk : k ≤ 30) : vp_in (x &&& m) (2 ^ k) := by
  obtain ⟨j, hj, e⟩ := pk_andE x k hm
  rw [e]
  exact vp_in_nI hj (Nat.lt_of_le_of_lt (Nat.pow_le_pow_right (by decide) hk) (by decide))
theorem pk_shl (a s : Int32) (k : Nat) (hs : (s.toBitVec.smod 32).toNat = k) : (a <<< s).toBitVec.toNat = a.toBitVec.toNat * 2 ^ k % 2 ^ 32 := by
  show (a.toBitVec <<< (s.toBitVec.smod 32).toNat).toNat = _
  rw [hs, BitVec.toNat_shiftLeft, Nat.shiftLeft_eq]
theorem pk_shlN {n : Nat} (s : Int32) (k : Nat) (hs : (s.toBitVec.smod 32).toNat = k) (h : n * 2 ^ k < 2 ^ 32) : nI n <<< s = nI (n * 2 ^ k) := by
  apply Int32.toBitVec_inj.mp
  apply BitVec.eq_of_toNat_eq
  have hn : n < 2 ^ 32 := Nat.lt_of_le_of_lt (Nat.le_mul_of_pos_right n (Nat.two_pow_pos k)) h
  rw [pk_shl _ _ k hs, pk_tn hn, pk_tn h, Nat.mod_eq_of_lt h]
theorem pk_shr (a s : Int32) (k : Nat) (hs : (s.toBitVec.smod 32).toNat = k) : (a >>> s).toInt = a.toInt >>> k := by
  show (a.toBitVec.sshiftRight (s.toBitVec.smod 32).toNat).toInt = _
  rw [hs, BitVec.toInt_sshiftRight]
  rfl
theorem pk_shrN {n : Nat} (h : n < 2 ^ 31) (s : Int32) (k : Nat) (hs : (s.toBitVec.smod 32).toNat = k) : nI n >>> s = nI (n / 2 ^ k) := by
  apply Int32.toInt_inj.mp
  have h2 : n / 2 ^ k ≤ n := Nat.div_le_self _ _
  rw [pk_shr _ _ k hs, nI_toInt h, nI_toInt (by omega), Int.shiftRight_eq_div_pow]
  rfl
theorem pk_ushr (x s : Int32) (k : Nat) (hs : ((s.toUInt32 &&& Int32.toUInt32 31).toBitVec % 32).toNat = k) : (x.toUInt32 >>> (s.toUInt32 &&& Int32.toUInt32 31)).toInt32.toBitVec.toNat = x.toBitVec.toNat / 2 ^ k := by
  have e : (x.toUInt32 >>> (s.toUInt32 &&& Int32.toUInt32 31)).toInt32.toBitVec = x.toBitVec >>> k := by
    rw [← hs]
    exact UInt32.toBitVec_shiftRight _ _
  rw [e, BitVec.toNat_ushiftRight, Nat.shiftRight_eq_div_pow]
theorem pk_ushrN {n : Nat} (hn : n < 2 ^ 32) (s : Int32) (k : Nat) (hs : ((s.toUInt32 &&& Int32.toUInt32 31).toBitVec % 32).toNat = k) : ((nI n).toUInt32 >>> (s.toUInt32 &&& Int32.toUInt32 31)).toInt32 = nI (n / 2 ^ k) := by
  apply Int32.toBitVec_inj.mp
  apply BitVec.eq_of_toNat_eq
  rw [pk_ushr _ s k hs, pk_tn hn, pk_tn (Nat.lt_of_le_of_lt (Nat.div_le_self _ _) hn)]
def bt (x : Int32) (i : Nat) : Bool := x.toBitVec.getLsbD i
theorem b_ext {x y : Int32} (h : ∀ i, i < 32 → bt x i = bt y i) : x = y := Int32.toBitVec_inj.mp (BitVec.eq_of_getLsbD_eq (fun i hi => h i hi))
theorem b_or (x y : Int32) (i : Nat) : bt (x ||| y) i = (bt x i || bt y i) := by unfold bt; rw [Int32.toBitVec_or, BitVec.getLsbD_or]
theorem b_and (x y : Int32) (i : Nat) : bt (x &&& y) i = (bt x i && bt y i) := by unfold bt; rw [Int32.toBitVec_and, BitVec.getLsbD_and]
theorem b_xor (x y : Int32) (i : Nat) : bt (x ^^^ y) i = (bt x i ^^ bt y i) := by unfold bt; rw [Int32.toBitVec_xor, BitVec.getLsbD_xor]
theorem b_big {x : Int32} {i : Nat} (h : 32 ≤ i) : bt x i = false := BitVec.getLsbD_of_ge _ _ h
theorem b_255 (i : Nat) : bt 255 i = decide (i < 8) := by
  rcases Nat.lt_or_ge i 32 with h | h
  · exact (by decide +kernel : ∀ i, i < 32 → bt 255 i = decide (i < 8)) i h
  · rw [b_big h, decide_eq_false (by omega)]
theorem b_65535 (i : Nat) : bt 65535 i = decide (i < 16) := by
  rcases Nat.lt_or_ge i 32 with h | h
  · exact (by decide +kernel : ∀ i, i < 32 → bt 65535 i = decide (i < 16)) i h
  · rw [b_big h, decide_eq_false (by omega)]
theorem b_m1 : ∀ i, i < 32 → bt (-1) i = true := by decide +kernel
theorem b_0 (i : Nat) : bt 0 i = false := BitVec.getLsbD_zero
theorem s_l : ∀ n, n < 32 → ((nI n &&& 31).toBitVec.smod 32).toNat = n := by decide +kernel
theorem s_u : ∀ n, n < 32 → (((nI n).toUInt32 &&& Int32.toUInt32 31).toBitVec % 32).toNat = n := by decide +kernel
theorem b_shl (n : Nat) (hn : n < 32) (x : Int32) {i : Nat} (hi : i < 32) : bt (x <<< (nI n &&& 31)) i = (decide (n ≤ i) && bt x (i - n)) := by
  unfold bt
  rw [Int32.toBitVec_shiftLeft]
  show (x.toBitVec <<< ((nI n &&& 31).toBitVec.smod 32).toNat).getLsbD i = _
  rw [s_l n hn, BitVec.getLsbD_shiftLeft]
  rcases Nat.lt_or_ge i n with h | h
  · simp [h, Nat.not_le.mpr h]
  · simp [hi, h, Nat.not_lt.mpr h]
theorem b_ushr (n : Nat) (hn : n < 32) (x : Int32) (i : Nat) : bt ((x.toUInt32 >>> ((nI n).toUInt32 &&& Int32.toUInt32 31)).toInt32) i = bt x (n + i) := by
  show (x.toUInt32 >>> ((nI n).toUInt32 &&& Int32.toUInt32 31)).toBitVec.getLsbD i = x.toUInt32.toBitVec.getLsbD (n + i)
  rw [UInt32.toBitVec_shiftRight]
  show (x.toUInt32.toBitVec >>> (((nI n).toUInt32 &&& Int32.toUInt32 31).toBitVec % 32).toNat).getLsbD i = _
  rw [s_u n hn, BitVec.getLsbD_ushiftRight]
theorem b_sshr (n : Nat) (hn : n < 32) (x : Int32) {i : Nat} (hi : i < 32) : bt (x >>> (nI n &&& 31)) i = if n + i < 32 then bt x (n + i) else bt x 31 := by
  unfold bt
  rw [Int32.toBitVec_shiftRight]
  show (x.toBitVec.sshiftRight ((nI n &&& 31).toBitVec.smod 32).toNat).getLsbD i = _
  rw [s_l n hn, BitVec.getLsbD_sshiftRight, BitVec.msb_eq_getLsbD_last]
  simp [hi]
end
section
/-! the pure picture: a situation is a position p and a number s = (stack number) * 9 + (kind of variable 0) * 3 + (kind of variable 1) -/
def pj_hg (v : Nat) : Nat := if v < 1 then 0 else if v < 4 then 1 else if v < 13 then 2 else if v < 40 then 3 else 4
def pj_nd (o : Nat) : Nat := if o = 4 ∨ o = 5 ∨ o = 7 ∨ o = 12 then 2 else if o = 2 ∨ o = 3 ∨ o = 6 ∨ o = 9 ∨ o = 13 then 1 else 0
def pj_sk (mh o s : Nat) : Nat := if pj_hg (s / 9) < pj_nd o then 1 else if (o = 0 ∨ o = 1 ∨ o = 3 ∨ o = 8) ∧ mh ≤ pj_hg (s / 9) then 2 else 0
def pj_tp (v : Nat) : Nat := (v - 1) % 3
def pj_rs (v : Nat) : Nat := (v - 1) / 3
def pj_chv (o : Nat) (z : Bool) (v a b : Nat) : Nat :=
  if o = 0 then v * 3 + 1
  else if o = 1 then v * 3 + 2
  else if o = 2 then pj_rs v
  else if o = 3 then v * 3 + pj_tp v + 1
  else if o = 4 then (pj_rs (pj_rs v) * 3 + pj_tp v + 1) * 3 + pj_tp (pj_rs v) + 1
  else if o = 5 ∨ o = 12 then pj_rs (pj_rs v) * 3 + 1
  else if o = 6 then pj_rs v * 3 + 1
  else if o = 7 then pj_rs (pj_rs v)
  else if o = 8 then v * 3 + (if z then a else b) + 1
  else if o = 9 then pj_rs v
  else v
def pj_cha (o : Nat) (z : Bool) (v a : Nat) : Nat := if o = 9 then (if z then pj_tp v else a) else a
def pj_chb (o : Nat) (z : Bool) (v b : Nat) : Nat := if o = 9 then (if z then b else pj_tp v) else b
def pj_ch (o : Nat) (z : Bool) (s : Nat) : Nat :=
  pj_chv o z (s / 9) (s / 3 % 3) (s % 3) * 9 + pj_cha o z (s / 9) (s / 3 % 3) * 3 + pj_chb o z (s / 9) (s % 3)
def pj_kb (o a b : Nat) : Bool := decide ((o = 5 ∧ (a ≠ 0 ∨ b ≠ 0)) ∨ (o = 6 ∧ a ≠ 1) ∨ (o = 7 ∧ (a ≠ 0 ∨ b ≠ 1)) ∨ (o = 12 ∧ (a ≠ 1 ∨ b ≠ 1)) ∨ (o = 13 ∧ a ≠ 0))
def pj_lv (n o p : Nat) (g : Int32) : Bool := decide (((o = 10 ∨ o = 11) ∧ (g < 0 ∨ nI n ≤ g)) ∨ (o ≠ 10 ∧ o ≠ 13 ∧ n ≤ p + 1))
def pj_fl (n mh o p : Nat) (g : Int32) (s : Nat) : Nat := if pj_sk mh o s ≠ 0 then pj_sk mh o s else (if pj_kb o (pj_tp (s / 9)) (pj_tp (pj_rs (s / 9))) then 4 else 0) + (if pj_lv n o p g then 8 else 0)
/-- one step of the checker from (p, s) to (q, t) -/
def pj_St (n mh : Nat) (O : Nat → Nat) (G : Nat → Int32) (p s q t : Nat) : Prop :=
  q < n ∧ pj_sk mh (O p) s = 0 ∧ t = pj_ch (O p) (decide (G p = 0)) s ∧ (((O p = 10 ∨ O p = 11) ∧ G p = nI q) ∨ (O p ≠ 10 ∧ O p ≠ 13 ∧ q = p + 1))
/-- (p, s) is reached in k steps -/
def pj_D (n mh : Nat) (O : Nat → Nat) (G : Nat → Int32) : Nat → Nat → Nat → Prop
  | 0 => fun p s => 0 < n ∧ p = 0 ∧ s = 8
  | k + 1 => fun p s => ∃ p' s', pj_D n mh O G k p' s' ∧ pj_St n mh O G p' s' p s
def pj_Rc (n mh : Nat) (O : Nat → Nat) (G : Nat → Int32) (p s : Nat) : Prop := ∃ k, pj_D n mh O G k p s
/-- the program is well made -/
def pj_PG (n mh : Nat) (O : Nat → Nat) (G : Nat → Int32) : Prop :=
  n ≤ 16 ∧ 1 ≤ mh ∧ mh ≤ 4 ∧ (∀ p, p < n → O p ≤ 13) ∧ (∀ p, p < n → (O p = 8 ∨ O p = 9) → (G p = 0 ∨ G p = 1))
theorem pj_o14 {o : Nat} (h : o ≤ 13) : o = 0 ∨ o = 1 ∨ o = 2 ∨ o = 3 ∨ o = 4 ∨ o = 5 ∨ o = 6 ∨ o = 7 ∨ o = 8 ∨ o = 9 ∨ o = 10 ∨ o = 11 ∨ o = 12 ∨ o = 13 := by omega
theorem pj_hg40 {v : Nat} (h : pj_hg v < 4) : v < 40 := by
  unfold pj_hg at h
  (repeat' split at h) <;> omega
theorem pj_hg1 {v : Nat} (h : 1 ≤ pj_hg v) : 0 < v := by
  unfold pj_hg at h
  split at h <;> omega
theorem pj_hg2 {v : Nat} (h : 2 ≤ pj_hg v) : 4 ≤ v := by
  unfold pj_hg at h
  (repeat' split at h) <;> omega
theorem pj_hgle (v : Nat) : pj_hg v ≤ 4 := by
  unfold pj_hg
  (repeat' split) <;> omega
theorem pj_sk0 {mh o s : Nat} (h : pj_sk mh o s = 0) : pj_nd o ≤ pj_hg (s / 9) ∧ ((o = 0 ∨ o = 1 ∨ o = 3 ∨ o = 8) → pj_hg (s / 9) < mh) := by
  unfold pj_sk at h
  split at h
  · omega
  · split at h
    · omega
    · rename_i h1 h2
      exact ⟨by omega, fun z => by
        rcases Nat.lt_or_ge (pj_hg (s / 9)) mh with h3 | h3
        · exact h3
        · exact absurd ⟨z, h3⟩ h2⟩
theorem pj_chv_lt {mh o : Nat} {z : Bool} {v a b : Nat} (hv : v < 121) (ha : a < 3) (hb : b < 3) (hm : mh ≤ 4) (hg : (o = 0 ∨ o = 1 ∨ o = 3 ∨ o = 8) → pj_hg v < mh) : pj_chv o z v a b < 121 := by
  have h40 : (o = 0 ∨ o = 1 ∨ o = 3 ∨ o = 8) → v < 40 := fun q => pj_hg40 (by have := hg q; omega)
  have hab : (if z then a else b) < 3 := by split <;> assumption
  unfold pj_chv pj_rs pj_tp
  generalize (if z = true then a else b) = c at *
  split
  · have := h40 (by omega); omega
  · split
    · have := h40 (by omega); omega
    · split
      · omega
      · split
        · have := h40 (by omega); omega
        · split
          · omega
          · split
            · omega
            · split
              · omega
              · split
                · omega
                · split
                  · have := h40 (by omega); omega
                  · split <;> omega
theorem pj_cha_lt {o : Nat} {z : Bool} {v a : Nat} (ha : a < 3) : pj_cha o z v a < 3 := by
  unfold pj_cha pj_tp
  split
  · split
    · omega
    · exact ha
  · exact ha
theorem pj_chb_lt {o : Nat} {z : Bool} {v b : Nat} (hb : b < 3) : pj_chb o z v b < 3 := by
  unfold pj_chb pj_tp
  split
  · split
    · exact hb
    · omega
  · exact hb
theorem pj_ch_v {o : Nat} {z : Bool} {s : Nat} : pj_ch o z s / 9 = pj_chv o z (s / 9) (s / 3 % 3) (s % 3) ∧ pj_ch o z s / 3 % 3 = pj_cha o z (s / 9) (s / 3 % 3) ∧ pj_ch o z s % 3 = pj_chb o z (s / 9) (s % 3) := by
  have h1 := pj_cha_lt (o := o) (z := z) (v := s / 9) (a := s / 3 % 3) (by omega)
  have h2 := pj_chb_lt (o := o) (z := z) (v := s / 9) (b := s % 3) (by omega)
  unfold pj_ch
  generalize pj_chv o z (s / 9) (s / 3 % 3) (s % 3) = v' at *
  generalize pj_cha o z (s / 9) (s / 3 % 3) = a' at *
  generalize pj_chb o z (s / 9) (s % 3) = b' at *
  omega
theorem pj_ch_lt {mh o : Nat} {z : Bool} {s : Nat} (hs : s < 1089) (hm : mh ≤ 4) (h : pj_sk mh o s = 0) : pj_ch o z s < 1089 := by
  have h0 := pj_chv_lt (mh := mh) (o := o) (z := z) (v := s / 9) (a := s / 3 % 3) (b := s % 3) (by omega) (by omega) (by omega) hm (pj_sk0 h).2
  have h3 := pj_ch_v (o := o) (z := z) (s := s)
  omega
theorem pj_Dlt {n mh : Nat} {O : Nat → Nat} {G : Nat → Int32} (W : pj_PG n mh O G) : ∀ k p s, pj_D n mh O G k p s → p < n ∧ s < 1089 := by
  intro k
  induction k with
  | zero => intro p s h; obtain ⟨h1, rfl, rfl⟩ := h; exact ⟨h1, by omega⟩
  | succ k ih =>
    intro p s h
    obtain ⟨p', s', h1, h2, h3, rfl, _⟩ := h
    exact ⟨h2, pj_ch_lt (ih _ _ h1).2 W.2.2.1 h3⟩
theorem pj_Rlt {n mh : Nat} {O : Nat → Nat} {G : Nat → Int32} (W : pj_PG n mh O G) {p s : Nat} (h : pj_Rc n mh O G p s) : p < n ∧ s < 1089 := by
  obtain ⟨k, hk⟩ := h
  exact pj_Dlt W k p s hk
/-! digits of a stack number, from the bottom -/
def pj_pp : Nat → Nat → Nat
  | 0, v => v
  | k + 1, v => pj_pp k ((v - 1) / 3)
def pj_dg (v i : Nat) : Nat := (pj_pp (pj_hg v - 1 - i) v - 1) % 3
def pj_fo (v : Nat) : Nat → Nat → Nat
  | 0, x => x
  | i + 1, x => pj_fo v i (x * 3 + 1 + pj_dg v i)
def pj_xr (v : Nat) : Nat := pj_fo v (pj_hg v) 0
theorem pj_dg3 (v i : Nat) : pj_dg v i < 3 := by unfold pj_dg; omega
theorem pj_xr121 : ∀ v, v < 121 → pj_xr v < 121 ∧ pj_xr (pj_xr v) = v := by decide +kernel
theorem pj_take : ∀ v, v < 121 → ∀ i, i < 4 → i < pj_hg v → 0 < pj_pp i (pj_xr v) ∧ (pj_pp i (pj_xr v) - 1) % 3 = pj_dg v i := by decide +kernel
theorem pj_take0 : ∀ v, v < 121 → pj_pp (pj_hg v) (pj_xr v) = 0 := by decide +kernel
theorem pj_pplt : ∀ k v, pj_pp k v ≤ v := by
  intro k
  induction k with
  | zero => intro v; exact Nat.le_refl v
  | succ k ih => intro v; have := ih ((v - 1) / 3); show pj_pp k ((v - 1) / 3) ≤ v; omega
theorem pj_pps : ∀ k v, pj_pp (k + 1) v = (pj_pp k v - 1) / 3 := by
  intro k
  induction k with
  | zero => intro v; rfl
  | succ k ih => intro v; exact ih ((v - 1) / 3)
theorem pj_psh : ∀ v, v < 40 → ∀ k, k < 3 → pj_hg (v * 3 + k + 1) = pj_hg v + 1 ∧ pj_dg (v * 3 + k + 1) (pj_hg v) = k ∧ ∀ i, i < 4 → i < pj_hg v → pj_dg (v * 3 + k + 1) i = pj_dg v i := by decide +kernel
theorem pj_pop : ∀ v, v < 121 → 0 < v → pj_hg ((v - 1) / 3) + 1 = pj_hg v ∧ pj_dg v (pj_hg v - 1) = (v - 1) % 3 ∧ ∀ i, i < 4 → i < pj_hg ((v - 1) / 3) → pj_dg ((v - 1) / 3) i = pj_dg v i := by decide +kernel
/-! the component's number of a situation -/
def pj_xn (p s : Nat) : Nat := (p * 121 + pj_xr (s / 9)) * 9 + s % 9
def pj_yp (N : Nat) : Nat := N / 1089
def pj_ys (N : Nat) : Nat := pj_xr (N / 9 % 121) * 9 + N % 9
theorem pj_xnlt {p s : Nat} (hp : p < 16) (hs : s < 1089) : pj_xn p s < 17424 := by
  have := (pj_xr121 (s / 9) (by omega)).1
  unfold pj_xn
  omega
theorem pj_ypx {p s : Nat} (hs : s < 1089) : pj_yp (pj_xn p s) = p := by
  have := (pj_xr121 (s / 9) (by omega)).1
  unfold pj_yp pj_xn
  omega
theorem pj_ysx {p s : Nat} (hs : s < 1089) : pj_ys (pj_xn p s) = s := by
  have h1 := pj_xr121 (s / 9) (by omega)
  have e : pj_xn p s / 9 % 121 = pj_xr (s / 9) := by unfold pj_xn; omega
  have e2 : pj_xn p s % 9 = s % 9 := by unfold pj_xn; omega
  unfold pj_ys
  rw [e, e2, h1.2]
  omega
theorem pj_ysl (N : Nat) : pj_ys N < 1089 := by
  have h1 := (pj_xr121 (N / 9 % 121) (by omega)).1
  unfold pj_ys
  omega
theorem pj_xny (N : Nat) : pj_xn (pj_yp N) (pj_ys N) = N := by
  have h1 := pj_xr121 (N / 9 % 121) (by omega)
  have e : pj_ys N / 9 = pj_xr (N / 9 % 121) := by unfold pj_ys; omega
  have e2 : pj_ys N % 9 = N % 9 := by unfold pj_ys; omega
  unfold pj_xn
  rw [e, e2, h1.2]
  unfold pj_yp
  omega
theorem pj_ypl {N : Nat} (h : N < 17424) : pj_yp N < 16 := by unfold pj_yp; omega
/-! counting -/
noncomputable def pj_cp (A : Nat → Prop) : Nat → Nat
  | 0 => 0
  | k + 1 => pj_cp A k + @ite Nat (A k) (Classical.propDecidable _) 1 0
theorem pj_cp1 {A : Nat → Prop} {k : Nat} (h : A k) : pj_cp A (k + 1) = pj_cp A k + 1 := by
  show pj_cp A k + @ite Nat (A k) (Classical.propDecidable _) 1 0 = _
  rw [if_pos h]
theorem pj_cp0 {A : Nat → Prop} {k : Nat} (h : ¬ A k) : pj_cp A (k + 1) = pj_cp A k := by
  show pj_cp A k + @ite Nat (A k) (Classical.propDecidable _) 1 0 = _
  rw [if_neg h]
  rfl
theorem pj_cple (A : Nat → Prop) : ∀ k, pj_cp A k ≤ k := by
  intro k
  induction k with
  | zero => exact Nat.le_refl 0
  | succ k ih =>
    rcases Classical.em (A k) with h | h
    · rw [pj_cp1 h]; omega
    · rw [pj_cp0 h]; omega
theorem pj_cpm {A B : Nat → Prop} : ∀ k, (∀ i, i < k → A i → B i) → pj_cp A k ≤ pj_cp B k := by
  intro k
  induction k with
  | zero => intro _; exact Nat.le_refl 0
  | succ k ih =>
    intro H
    have h1 := ih (fun i hi => H i (by omega))
    rcases Classical.em (A k) with h | h
    · rw [pj_cp1 h, pj_cp1 (H k (by omega) h)]; omega
    · rw [pj_cp0 h]
      rcases Classical.em (B k) with h' | h'
      · rw [pj_cp1 h']; omega
      · rw [pj_cp0 h']; omega
theorem pj_cps {A B : Nat → Prop} {N : Nat} (hB : B N) (hA : ¬ A N) : ∀ k, N < k → (∀ i, i < k → A i → B i) → pj_cp A k + 1 ≤ pj_cp B k := by
  intro k
  induction k with
  | zero => intro h; omega
  | succ k ih =>
    intro hN H
    rcases Nat.lt_or_ge N k with h | h
    · have h1 := ih h (fun i hi => H i (by omega))
      rcases Classical.em (A k) with h | h
      · rw [pj_cp1 h, pj_cp1 (H k (by omega) h)]; omega
      · rw [pj_cp0 h]
        rcases Classical.em (B k) with h' | h'
        · rw [pj_cp1 h']; omega
        · rw [pj_cp0 h']; omega
    · have e : N = k := by omega
      subst e
      have h1 := pj_cpm (A := A) (B := B) N (fun i hi => H i (by omega))
      rw [pj_cp0 hA, pj_cp1 hB]
      omega
theorem pj_cpf {A : Nat → Prop} {N k : Nat} (hN : N < k) (hA : ¬ A N) : pj_cp A k + 1 ≤ k := by
  have h1 := pj_cps (A := A) (B := fun _ => True) trivial hA k hN (fun _ _ _ => trivial)
  have h2 := pj_cple (fun _ => True) k
  omega
/-! the least number of steps to a position -/
def pj_DS (n mh : Nat) (O : Nat → Nat) (G : Nat → Int32) (p : Nat) (d : Int32) : Prop :=
  (d = -1 ∧ ∀ k s, ¬ pj_D n mh O G k p s) ∨ (∃ k, d = nI k ∧ (∃ s, pj_D n mh O G k p s) ∧ ∀ k' s, pj_D n mh O G k' p s → k ≤ k')
theorem pj_DSu {n mh : Nat} {O : Nat → Nat} {G : Nat → Int32} {p : Nat} {d e : Int32} (h : pj_DS n mh O G p d) (h' : pj_DS n mh O G p e) : d = e := by
  rcases h with ⟨rfl, h1⟩ | ⟨k, rfl, ⟨s, h1⟩, h2⟩
  · rcases h' with ⟨rfl, _⟩ | ⟨k', rfl, ⟨s', h1'⟩, _⟩
    · rfl
    · exact absurd h1' (h1 _ _)
  · rcases h' with ⟨rfl, h1'⟩ | ⟨k', rfl, ⟨s', h1'⟩, h2'⟩
    · exact absurd h1 (h1' _ _)
    · have a := h2 _ _ h1'
      have b := h2' _ _ h1
      rw [Nat.le_antisymm a b]
/-- of which kind a cell is: place pl at height h in situation s -/
def pj_Kd (s h pl b : Nat) : Prop := (pl < h ∧ pj_dg (s / 9) pl = b) ∨ (pl = 4 ∧ s / 3 % 3 = b) ∨ (pl = 5 ∧ s % 3 = b)
def pj_nF (Q : Nat → Nat) : Nat → Int32 := fun j => nI (Q j)
def pj_uN (Q : Nat → Nat) (k x : Nat) : Nat → Nat := fun j => if j = k then x else Q j
theorem pj_nFu (Q : Nat → Nat) (k x : Nat) : upd (pj_nF Q) k (nI x) = pj_nF (pj_uN Q k x) := by
  funext j
  show (if j = k then nI x else nI (Q j)) = nI (if j = k then x else Q j)
  split <;> rfl
theorem pj_uNs {Q : Nat → Nat} {k x : Nat} : pj_uN Q k x k = x := if_pos rfl
theorem pj_uNn {Q : Nat → Nat} {k x j : Nat} (h : j ≠ k) : pj_uN Q k x j = Q j := if_neg h
def pj_or (f : Nat → Int32) (p : Nat) (x : Int32) : Nat → Int32 := upd f p (f p ||| x)
end
section
/-! the component's kinds at hand -/
def pj_kd (d : Nat) : Int32 := nI (2 ^ d)
def pj_V (v : Nat) (kh : Int32) (ks : Nat → Int32) : Prop := kh = nI (pj_hg v) ∧ ∀ i, i < pj_hg v → ks i = pj_kd (pj_dg v i)
def pj_A (a b : Nat) (kl : Nat → Int32) : Prop := kl 0 = pj_kd a ∧ kl 1 = pj_kd b
def pj_P (s : Nat) (kh : Int32) (ks kl : Nat → Int32) : Prop := pj_V (s / 9) kh ks ∧ pj_A (s / 3 % 3) (s % 3) kl
theorem pj_3 {a : Nat} (h : a < 3) : a = 0 ∨ a = 1 ∨ a = 2 := by omega
theorem pj_kdshl : ∀ d, d < 3 → (1 : Int32) <<< (nI d &&& 31) = pj_kd d := by decide +kernel
theorem pj_kdshr : ∀ d, d < 3 → pj_kd d >>> ((1 : Int32) &&& 31) = nI d := by decide +kernel
theorem pj_hg4 {v : Nat} (h : v < 40) : pj_hg v < 4 := by
  unfold pj_hg
  (repeat' split) <;> omega
theorem pj_Vpush {v k : Nat} {kh : Int32} {ks : Nat → Int32} (h : pj_V v kh ks) (hv : v < 40) (hk : k < 3) : pj_V (v * 3 + k + 1) (nI (pj_hg v + 1)) (upd ks (pj_hg v) (pj_kd k)) := by
  have h4 := pj_hg4 hv
  obtain ⟨e1, e2, e3⟩ := pj_psh v hv k hk
  refine ⟨by rw [e1], fun i hi => ?_⟩
  rw [e1] at hi
  rcases Nat.lt_or_ge i (pj_hg v) with h1 | h1
  · rw [pk_un (by omega), e3 i (by omega) h1]
    exact h.2 i h1
  · have e : i = pj_hg v := by omega
    subst e
    rw [pk_us, e2]
theorem pj_Vpop {v : Nat} {kh : Int32} {ks : Nat → Int32} (h : pj_V v kh ks) (hv : v < 121) (h0 : 0 < v) : pj_V (pj_rs v) (nI (pj_hg v - 1)) ks := by
  obtain ⟨e1, e2, e3⟩ := pj_pop v hv h0
  have h4 := pj_hgle v
  have e : pj_hg (pj_rs v) = pj_hg v - 1 := by unfold pj_rs; omega
  refine ⟨by rw [e], fun i hi => ?_⟩
  have hi' : i < pj_hg ((v - 1) / 3) := hi
  show ks i = pj_kd (pj_dg ((v - 1) / 3) i)
  rw [e3 i (by omega) hi']
  exact h.2 i (by omega)
theorem pj_Vtop {v : Nat} {kh : Int32} {ks : Nat → Int32} (h : pj_V v kh ks) (hv : v < 121) (h0 : 0 < v) : ks (pj_hg v - 1) = pj_kd (pj_tp v) := by
  obtain ⟨e1, e2, e3⟩ := pj_pop v hv h0
  rw [h.2 _ (by omega), e2]
  rfl
theorem pj_rs121 {v : Nat} (hv : v < 121) : pj_rs v < 121 := by unfold pj_rs; omega
theorem pj_rs40 {v : Nat} (hv : v < 121) : pj_rs v < 40 := by unfold pj_rs; omega
theorem pj_rspos {v : Nat} (h : 2 ≤ pj_hg v) : 0 < pj_rs v := by have := pj_hg2 h; unfold pj_rs; omega
theorem pj_tp3 (v : Nat) : pj_tp v < 3 := by unfold pj_tp; omega
theorem pj_Vtop2 {v : Nat} {kh : Int32} {ks : Nat → Int32} (h : pj_V v kh ks) (hv : v < 121) (h2 : 2 ≤ pj_hg v) : ks (pj_hg v - 2) = pj_kd (pj_tp (pj_rs v)) := by
  have h0 := pj_hg1 (v := v) (by omega)
  have h1 := pj_Vtop (pj_Vpop h hv h0) (pj_rs121 hv) (pj_rspos h2)
  have e : pj_hg (pj_rs v) = pj_hg v - 1 := by have := (pj_pop v hv h0).1; unfold pj_rs; omega
  rw [e] at h1
  exact h1
section
variable {f_maxHeight f_pool f_length f_faulty f_queued f_kindHeight f_status f_position f_height f_records f_choices f_forks : Int32} {a_ops a_args a_faultBits a_heightBits a_kindBits a_leastSteps a_queue a_queueSteps a_reached a_kindStack a_kindLocals a_stack a_locals a_fields : Nat → Int32}
theorem mx_pushKind {post : SX → Prop} {v k : Nat} {x : Int32} (h : pj_V v f_kindHeight a_kindStack) (hv : v < 40) (hk : k < 3) (hx : x = pj_kd k)
    (H : ∀ kh ks, pj_V (v * 3 + k + 1) kh ks → post (f_maxHeight, f_pool, f_length, f_faulty, f_queued, kh, f_status, f_position, f_height, f_records, f_choices, f_forks, a_ops, a_args, a_faultBits, a_heightBits, a_kindBits, a_leastSteps, a_queue, a_queueSteps, a_reached, ks, a_kindLocals, a_stack, a_locals, a_fields)) : wpX_pushKind post (f_maxHeight, f_pool, f_length, f_faulty, f_queued, f_kindHeight, f_status, f_position, f_height, f_records, f_choices, f_forks, a_ops, a_args, a_faultBits, a_heightBits, a_kindBits, a_leastSteps, a_queue, a_queueSteps, a_reached, a_kindStack, a_kindLocals, a_stack, a_locals, a_fields) x := by
  have h4 := pj_hg4 hv
  have hp := pj_Vpush h hv hk
  obtain ⟨rfl, _⟩ := h
  subst hx
  refine br_f (nI_ge (b := 4) h4 (by decide)) ⟨vp_in_nI h4 (by decide), ?_⟩
  intro a ea b eb
  subst ea
  subst eb
  rw [nI_clamp (by omega), nI_1]
  exact H _ _ hp
theorem mx_drop {post : SX → Prop} {h c : Nat} {x : Int32} (hh : f_kindHeight = nI h) (hx : x = nI c) (hc : c ≤ h) (h4 : h ≤ 4) (H : post (f_maxHeight, f_pool, f_length, f_faulty, f_queued, nI (h - c), f_status, f_position, f_height, f_records, f_choices, f_forks, a_ops, a_args, a_faultBits, a_heightBits, a_kindBits, a_leastSteps, a_queue, a_queueSteps, a_reached, a_kindStack, a_kindLocals, a_stack, a_locals, a_fields)) : wpX_dropKinds post (f_maxHeight, f_pool, f_length, f_faulty, f_queued, f_kindHeight, f_status, f_position, f_height, f_records, f_choices, f_forks, a_ops, a_args, a_faultBits, a_heightBits, a_kindBits, a_leastSteps, a_queue, a_queueSteps, a_reached, a_kindStack, a_kindLocals, a_stack, a_locals, a_fields) x := by
  subst hh
  subst hx
  refine pk_le h c (fun e => ?_) (fun e => ?_)
  · have e2 : h - c = 0 := by omega
    rw [e2] at H
    exact H
  · intro b eb
    subst eb
    rw [pk_sub hc]
    exact H
theorem mx_drop1 {post : SX → Prop} {v : Nat} (h : pj_V v f_kindHeight a_kindStack) (hv : v < 121) (h0 : 1 ≤ pj_hg v) (H : ∀ kh, pj_V (pj_rs v) kh a_kindStack → post (f_maxHeight, f_pool, f_length, f_faulty, f_queued, kh, f_status, f_position, f_height, f_records, f_choices, f_forks, a_ops, a_args, a_faultBits, a_heightBits, a_kindBits, a_leastSteps, a_queue, a_queueSteps, a_reached, a_kindStack, a_kindLocals, a_stack, a_locals, a_fields)) : wpX_dropKinds post (f_maxHeight, f_pool, f_length, f_faulty, f_queued, f_kindHeight, f_status, f_position, f_height, f_records, f_choices, f_forks, a_ops, a_args, a_faultBits, a_heightBits, a_kindBits, a_leastSteps, a_queue, a_queueSteps, a_reached, a_kindStack, a_kindLocals, a_stack, a_locals, a_fields) 1 :=
  mx_drop h.1 (c := 1) rfl h0 (pj_hgle v) (H _ (pj_Vpop h hv (pj_hg1 h0)))
theorem mx_drop2 {post : SX → Prop} {v : Nat} (h : pj_V v f_kindHeight a_kindStack) (hv : v < 121) (h0 : 2 ≤ pj_hg v) (H : ∀ kh, pj_V (pj_rs (pj_rs v)) kh a_kindStack → post (f_maxHeight, f_pool, f_length, f_faulty, f_queued, kh, f_status, f_position, f_height, f_records, f_choices, f_forks, a_ops, a_args, a_faultBits, a_heightBits, a_kindBits, a_leastSteps, a_queue, a_queueSteps, a_reached, a_kindStack, a_kindLocals, a_stack, a_locals, a_fields)) : wpX_dropKinds post (f_maxHeight, f_pool, f_length, f_faulty, f_queued, f_kindHeight, f_status, f_position, f_height, f_records, f_choices, f_forks, a_ops, a_args, a_faultBits, a_heightBits, a_kindBits, a_leastSteps, a_queue, a_queueSteps, a_reached, a_kindStack, a_kindLocals, a_stack, a_locals, a_fields) 2 := by
  refine mx_drop h.1 (c := 2) rfl h0 (pj_hgle v) (H _ ?_)
  have e : pj_hg (pj_rs v) = pj_hg v - 1 := by have := (pj_pop v hv (pj_hg1 (by omega))).1; unfold pj_rs; omega
  have h1 := pj_Vpop (pj_Vpop h hv (pj_hg1 (by omega))) (pj_rs121 hv) (pj_rspos h0)
  rw [e] at h1
  exact h1
theorem mx_kbt {post : Int32 → Prop} {d h : Nat} {x : Int32} (hh : f_kindHeight = nI h) (h4 : h ≤ 4) (hx : x = nI d) (hd : d < 2) (H : post (if d < h then a_kindStack (h - 1 - d) else 0)) : wpX_kindBelowTop post (f_maxHeight, f_pool, f_length, f_faulty, f_queued, f_kindHeight, f_status, f_position, f_height, f_records, f_choices, f_forks, a_ops, a_args, a_faultBits, a_heightBits, a_kindBits, a_leastSteps, a_queue, a_queueSteps, a_reached, a_kindStack, a_kindLocals, a_stack, a_locals, a_fields) x := by
  subst hh
  subst hx
  rcases Nat.lt_or_ge d h with h1 | h1
  · rw [if_pos h1] at H
    refine nm_r (e' := nI (h - 1 - d)) ?_ ?_
    · rw [show (1 : Int32) = nI 1 from rfl, pk_sub (by omega), pk_sub (by omega)]
    · refine br_f (nI_pos (by omega)) (br_f (nI_ge (b := 4) (by omega) (by decide)) ⟨vp_in_nI (by omega) (by decide), ?_⟩)
      rw [nI_clamp (by omega)]
      exact H
  · rw [if_neg (by omega)] at H
    have e : (h = 0 ∧ d = 0) ∨ (h = 0 ∧ d = 1) ∨ (h = 1 ∧ d = 1) := by omega
    rcases e with ⟨rfl, rfl⟩ | ⟨rfl, rfl⟩ | ⟨rfl, rfl⟩
    · exact nm_e (br_t (by decide) H)
    · exact nm_e (br_t (by decide) H)
    · exact nm_e (br_t (by decide) H)
theorem mx_kindsFit {post : Int32 → Prop} {o v : Nat} (V : pj_V v f_kindHeight a_kindStack) (hv : v < 121) (ho : o ≤ 13) (hn : pj_nd o ≤ pj_hg v)
    (H0 : pj_kb o (pj_tp v) (pj_tp (pj_rs v)) = true → post 0) (H1 : pj_kb o (pj_tp v) (pj_tp (pj_rs v)) = false → post 1) : wpX_kindsFit post (f_maxHeight, f_pool, f_length, f_faulty, f_queued, f_kindHeight, f_status, f_position, f_height, f_records, f_choices, f_forks, a_ops, a_args, a_faultBits, a_heightBits, a_kindBits, a_leastSteps, a_queue, a_queueSteps, a_reached, a_kindStack, a_kindLocals, a_stack, a_locals, a_fields) (nI o) := by
  unfold wpX_kindsFit
  refine mx_kbt V.1 (pj_hgle v) (d := 0) rfl (by decide) ?_
  refine mx_kbt V.1 (pj_hgle v) (d := 1) rfl (by decide) ?_
  have t1 : 1 ≤ pj_hg v → (if 0 < pj_hg v then a_kindStack (pj_hg v - 1 - 0) else 0) = pj_kd (pj_tp v) := fun h => (if_pos (show 0 < pj_hg v from h)).trans (pj_Vtop V hv (pj_hg1 h))
  have t2 : 2 ≤ pj_hg v → (if 1 < pj_hg v then a_kindStack (pj_hg v - 1 - 1) else 0) = pj_kd (pj_tp (pj_rs v)) := fun h => (if_pos (show 1 < pj_hg v from h)).trans (pj_Vtop2 V hv h)
  generalize (if 0 < pj_hg v then a_kindStack (pj_hg v - 1 - 0) else 0) = r1 at *
  generalize (if 1 < pj_hg v then a_kindStack (pj_hg v - 1 - 1) else 0) = r2 at *
  have a3 := pj_tp3 v
  have b3 := pj_tp3 (pj_rs v)
  generalize pj_tp v = a at *
  generalize pj_tp (pj_rs v) = b at *
  rcases pj_o14 ho with rfl | rfl | rfl | rfl | rfl | rfl | rfl | rfl | rfl | rfl | rfl | rfl | rfl | rfl
  case inr.inr.inr.inr.inr.inl =>
    have hn' : 2 ≤ pj_hg v := hn
    rw [t1 (by omega), t2 hn']
    rcases pj_3 a3 with rfl | rfl | rfl <;> rcases pj_3 b3 with rfl | rfl | rfl <;> ((repeat (first | refine br_t (by decide) ?_ | refine br_f (by decide) ?_)); first | exact H0 rfl | exact H1 rfl)
  case inr.inr.inr.inr.inr.inr.inl =>
    have hn' : 1 ≤ pj_hg v := hn
    rw [t1 hn']
    rcases pj_3 a3 with rfl | rfl | rfl <;> ((repeat (first | refine br_t (by decide) ?_ | refine br_f (by decide) ?_)); first | exact H0 (by simp [pj_kb]) | exact H1 (by simp [pj_kb]))
  case inr.inr.inr.inr.inr.inr.inr.inl =>
    have hn' : 2 ≤ pj_hg v := hn
    rw [t1 (by omega), t2 hn']
    rcases pj_3 a3 with rfl | rfl | rfl <;> rcases pj_3 b3 with rfl | rfl | rfl <;> ((repeat (first | refine br_t (by decide) ?_ | refine br_f (by decide) ?_)); first | exact H0 rfl | exact H1 rfl)
  case inr.inr.inr.inr.inr.inr.inr.inr.inr.inr.inr.inr.inl =>
    have hn' : 2 ≤ pj_hg v := hn
    rw [t1 (by omega), t2 hn']
    rcases pj_3 a3 with rfl | rfl | rfl <;> rcases pj_3 b3 with rfl | rfl | rfl <;> ((repeat (first | refine br_t (by decide) ?_ | refine br_f (by decide) ?_)); first | exact H0 rfl | exact H1 rfl)
  case inr.inr.inr.inr.inr.inr.inr.inr.inr.inr.inr.inr.inr =>
    have hn' : 1 ≤ pj_hg v := hn
    rw [t1 hn']
    rcases pj_3 a3 with rfl | rfl | rfl <;> ((repeat (first | refine br_t (by decide) ?_ | refine br_f (by decide) ?_)); first | exact H0 (by simp [pj_kb]) | exact H1 (by simp [pj_kb]))
  all_goals ((repeat (first | refine br_t (by decide) ?_ | refine br_f (by decide) ?_)); exact H1 (by simp [pj_kb]))
theorem mx_changeKinds {post : SX → Prop} {o s mh : Nat} {g : Int32} (P : pj_P s f_kindHeight a_kindStack a_kindLocals) (hs : s < 1089) (ho : o ≤ 13) (hm : mh ≤ 4) (hk : pj_sk mh o s = 0) (hg : (o = 8 ∨ o = 9) → g = 0 ∨ g = 1)
    (H : ∀ kh ks kl, pj_P (pj_ch o (decide (g = 0)) s) kh ks kl → post (f_maxHeight, f_pool, f_length, f_faulty, f_queued, kh, f_status, f_position, f_height, f_records, f_choices, f_forks, a_ops, a_args, a_faultBits, a_heightBits, a_kindBits, a_leastSteps, a_queue, a_queueSteps, a_reached, ks, kl, a_stack, a_locals, a_fields)) : wpX_changeKinds post (f_maxHeight, f_pool, f_length, f_faulty, f_queued, f_kindHeight, f_status, f_position, f_height, f_records, f_choices, f_forks, a_ops, a_args, a_faultBits, a_heightBits, a_kindBits, a_leastSteps, a_queue, a_queueSteps, a_reached, a_kindStack, a_kindLocals, a_stack, a_locals, a_fields) (nI o) g := by
  obtain ⟨V, A⟩ := P
  have hv : s / 9 < 121 := by omega
  have ha : s / 3 % 3 < 3 := by omega
  have hb : s % 3 < 3 := by omega
  obtain ⟨k1, k2⟩ := pj_sk0 hk
  have H' : ∀ kh ks kl, pj_V (pj_chv o (decide (g = 0)) (s / 9) (s / 3 % 3) (s % 3)) kh ks → pj_A (pj_cha o (decide (g = 0)) (s / 9) (s / 3 % 3)) (pj_chb o (decide (g = 0)) (s / 9) (s % 3)) kl → post (f_maxHeight, f_pool, f_length, f_faulty, f_queued, kh, f_status, f_position, f_height, f_records, f_choices, f_forks, a_ops, a_args, a_faultBits, a_heightBits, a_kindBits, a_leastSteps, a_queue, a_queueSteps, a_reached, ks, kl, a_stack, a_locals, a_fields) := fun kh ks kl h1 h2 => by
    refine H kh ks kl ?_
    unfold pj_P
    obtain ⟨e1, e2, e3⟩ := pj_ch_v (o := o) (z := decide (g = 0)) (s := s)
    rw [e1, e2, e3]
    exact ⟨h1, h2⟩
  clear H
  generalize s / 9 = v at *
  generalize s / 3 % 3 = a at *
  generalize s % 3 = b at *
  have h40 : (o = 0 ∨ o = 1 ∨ o = 3 ∨ o = 8) → pj_hg v < mh → v < 40 := fun q w => pj_hg40 (by omega)
  unfold wpX_changeKinds
  refine mx_kbt V.1 (pj_hgle v) (d := 0) rfl (by decide) ?_
  refine mx_kbt V.1 (pj_hgle v) (d := 1) rfl (by decide) ?_
  have t1 : 1 ≤ pj_hg v → (if 0 < pj_hg v then a_kindStack (pj_hg v - 1 - 0) else 0) = pj_kd (pj_tp v) := fun h => (if_pos (show 0 < pj_hg v from h)).trans (pj_Vtop V hv (pj_hg1 h))
  have t2 : 2 ≤ pj_hg v → (if 1 < pj_hg v then a_kindStack (pj_hg v - 1 - 1) else 0) = pj_kd (pj_tp (pj_rs v)) := fun h => (if_pos (show 1 < pj_hg v from h)).trans (pj_Vtop2 V hv h)
  generalize (if 0 < pj_hg v then a_kindStack (pj_hg v - 1 - 0) else 0) = r1 at *
  generalize (if 1 < pj_hg v then a_kindStack (pj_hg v - 1 - 1) else 0) = r2 at *
  rcases pj_o14 ho with rfl | rfl | rfl | rfl | rfl | rfl | rfl | rfl | rfl | rfl | rfl | rfl | rfl | rfl
  · have w := h40 (by omega) (k2 (by omega))
    (repeat (first | refine br_t (by decide) ?_ | refine br_f (by decide) ?_))
    exact mx_pushKind V w (k := 0) (by omega) rfl (fun kh ks h => H' _ _ _ h A)
  · have w := h40 (by omega) (k2 (by omega))
    (repeat (first | refine br_t (by decide) ?_ | refine br_f (by decide) ?_))
    exact mx_pushKind V w (k := 1) (by omega) rfl (fun kh ks h => H' _ _ _ h A)
  · (repeat (first | refine br_t (by decide) ?_ | refine br_f (by decide) ?_))
    exact mx_drop1 V hv k1 (fun kh h => H' _ _ _ h A)
  · have w := h40 (by omega) (k2 (by omega))
    (repeat (first | refine br_t (by decide) ?_ | refine br_f (by decide) ?_))
    exact mx_pushKind V w (pj_tp3 v) (t1 k1) (fun kh ks h => H' _ _ _ h A)
  · have hn : 2 ≤ pj_hg v := k1
    (repeat (first | refine br_t (by decide) ?_ | refine br_f (by decide) ?_))
    refine mx_drop2 V hv hn (fun kh h => ?_)
    refine mx_pushKind h (by have := pj_rs40 (pj_rs121 hv); exact this) (pj_tp3 v) (t1 (by omega)) (fun kh ks h => ?_)
    refine mx_pushKind h (by unfold pj_rs pj_tp; omega) (pj_tp3 (pj_rs v)) (t2 hn) (fun kh ks h => ?_)
    exact H' _ _ _ h A
  · have hn : 2 ≤ pj_hg v := k1
    (repeat (first | refine br_t (by decide) ?_ | refine br_f (by decide) ?_))
    unfold wX_changeKinds_131
    refine mx_drop2 V hv hn (fun kh h => ?_)
    refine mx_pushKind h (by have := pj_rs40 (pj_rs121 hv); exact this) (k := 0) (by omega) rfl (fun kh ks h => ?_)
    exact H' _ _ _ h A
  · have hn : 1 ≤ pj_hg v := k1
    (repeat (first | refine br_t (by decide) ?_ | refine br_f (by decide) ?_))
    refine mx_drop1 V hv hn (fun kh h => ?_)
    refine mx_pushKind h (pj_rs40 hv) (k := 0) (by omega) rfl (fun kh ks h => ?_)
    exact H' _ _ _ h A
  · have hn : 2 ≤ pj_hg v := k1
    (repeat (first | refine br_t (by decide) ?_ | refine br_f (by decide) ?_))
    exact mx_drop2 V hv hn (fun kh h => H' _ _ _ h A)
  · have w := h40 (by omega) (k2 (by omega))
    rcases hg (by omega) with rfl | rfl
    · (repeat (first | refine br_t (by decide) ?_ | refine br_f (by decide) ?_))
      exact ⟨vp_in_iff.mpr (by decide), mx_pushKind V w (k := a) ha A.1 (fun kh ks h => H' _ _ _ h A)⟩
    · (repeat (first | refine br_t (by decide) ?_ | refine br_f (by decide) ?_))
      exact ⟨vp_in_iff.mpr (by decide), mx_pushKind V w (k := b) hb A.2 (fun kh ks h => H' _ _ _ h A)⟩
  · have hn : 1 ≤ pj_hg v := k1
    rcases hg (by omega) with rfl | rfl
    · (repeat (first | refine br_t (by decide) ?_ | refine br_f (by decide) ?_))
      refine mx_drop1 V hv hn (fun kh h => ⟨vp_in_iff.mpr (by decide), nm_e ?_⟩)
      exact H' _ _ _ h ⟨t1 hn, A.2⟩
    · (repeat (first | refine br_t (by decide) ?_ | refine br_f (by decide) ?_))
      refine mx_drop1 V hv hn (fun kh h => ⟨vp_in_iff.mpr (by decide), nm_e ?_⟩)
      exact H' _ _ _ h ⟨A.1, t1 hn⟩
  · (repeat (first | refine br_t (by decide) ?_ | refine br_f (by decide) ?_))
    exact H' _ _ _ V A
  · (repeat (first | refine br_t (by decide) ?_ | refine br_f (by decide) ?_))
    exact H' _ _ _ V A
  · have hn : 2 ≤ pj_hg v := k1
    (repeat (first | refine br_t (by decide) ?_ | refine br_f (by decide) ?_))
    unfold wX_changeKinds_131
    refine mx_drop2 V hv hn (fun kh h => ?_)
    refine mx_pushKind h (by have := pj_rs40 (pj_rs121 hv); exact this) (k := 0) (by omega) rfl (fun kh ks h => ?_)
    exact H' _ _ _ h A
  · (repeat (first | refine br_t (by decide) ?_ | refine br_f (by decide) ?_))
    exact H' _ _ _ V A
end
end
section
/-! the component's checker, method by method -/
def pj_Q (n mh : Nat) (O : Nat → Nat) (G : Nat → Int32) (m : Nat) (Q T : Nat → Nat) (R : Nat → Int32) : Prop :=
  (∀ j, j < m → Q j < 17424 ∧ T j ≤ j ∧ pj_D n mh O G (T j) (pj_yp (Q j)) (pj_ys (Q j)) ∧ R (Q j) ≠ 0) ∧ (∀ N, N < 17424 → R N ≠ 0 → ∃ j, j < m ∧ Q j = N) ∧ m ≤ pj_cp (fun N => R N ≠ 0) 17424 ∧ (∀ i j, i ≤ j → j < m → T i ≤ T j)
def pj_E (m : Nat) (Q T : Nat → Nat) (m' : Nat) (Q' T' : Nat → Nat) : Prop := m ≤ m' ∧ ∀ j, j < m → Q' j = Q j ∧ T' j = T j
theorem pj_Er (m : Nat) (Q T : Nat → Nat) : pj_E m Q T m Q T := ⟨Nat.le_refl _, fun _ _ => ⟨rfl, rfl⟩⟩
theorem pj_Et {m m' m'' : Nat} {Q T Q' T' Q'' T'' : Nat → Nat} (h : pj_E m Q T m' Q' T') (h' : pj_E m' Q' T' m'' Q'' T'') : pj_E m Q T m'' Q'' T'' :=
  ⟨Nat.le_trans h.1 h'.1, fun j hj => ⟨((h'.2 j (Nat.lt_of_lt_of_le hj h.1)).1).trans (h.2 j hj).1, ((h'.2 j (Nat.lt_of_lt_of_le hj h.1)).2).trans (h.2 j hj).2⟩⟩
theorem pj_Qm {n mh : Nat} {O : Nat → Nat} {G : Nat → Int32} {m : Nat} {Q T : Nat → Nat} {R : Nat → Int32} (I : pj_Q n mh O G m Q T R) : m ≤ 17424 := Nat.le_trans I.2.2.1 (pj_cple _ _)
theorem pj_Qnew {n mh : Nat} {O : Nat → Nat} {G : Nat → Int32} {m N e : Nat} {Q T : Nat → Nat} {R : Nat → Int32} (I : pj_Q n mh O G m Q T R) (hN : N < 17424) (hR : R N = 0) (hD : pj_D n mh O G e (pj_yp N) (pj_ys N)) (hb : ∀ j, j < m → T j ≤ e) (he : e ≤ m) : m < 17424 ∧ pj_Q n mh O G (m + 1) (pj_uN Q m N) (pj_uN T m e) (upd R N 1) := by
  obtain ⟨h1, h2, h3, h4⟩ := I
  have hne : ∀ j, j < m → Q j ≠ N := fun j hj e => (h1 j hj).2.2.2 (by rw [e]; exact hR)
  refine ⟨?_, fun j hj => ?_, fun M hM hMR => ?_, ?_, fun i j hij hj => ?_⟩
  · have := pj_cpf (A := fun N => R N ≠ 0) hN (fun z => z hR)
    omega
  · rcases Nat.lt_or_ge j m with hjm | hjm
    · obtain ⟨a1, a2, a3, a4⟩ := h1 j hjm
      rw [pj_uNn (by omega), pj_uNn (by omega)]
      refine ⟨a1, a2, a3, ?_⟩
      rw [pk_un (hne j hjm)]
      exact a4
    · have ej : j = m := by omega
      subst ej
      rw [pj_uNs, pj_uNs]
      refine ⟨hN, he, hD, ?_⟩
      rw [pk_us]
      decide
  · by_cases eM : M = N
    · exact ⟨m, by omega, by rw [pj_uNs]; exact eM.symm⟩
    · rw [pk_un eM] at hMR
      obtain ⟨j, hj, e⟩ := h2 M hM hMR
      exact ⟨j, by omega, by rw [pj_uNn (by omega)]; exact e⟩
  · have h5 := pj_cps (A := fun N => R N ≠ 0) (B := fun M => upd R N 1 M ≠ 0) (N := N) (by show upd R N 1 N ≠ 0; rw [pk_us]; decide) (fun z => z hR) 17424 hN (fun i _ hi => by
      show upd R N 1 i ≠ 0
      by_cases e : i = N
      · subst e; rw [pk_us]; decide
      · rw [pk_un e]; exact hi)
    omega
  · rcases Nat.lt_or_ge j m with hjm | hjm
    · rw [pj_uNn (by omega), pj_uNn (by omega)]
      exact h4 i j hij hjm
    · have ej : j = m := by omega
      subst ej
      rw [pj_uNs]
      rcases Nat.lt_or_ge i j with hi | hi
      · rw [pj_uNn (by omega)]; exact hb i hi
      · have ei : i = j := by omega
        subst ei
        rw [pj_uNs]
        exact Nat.le_refl _
/-- what faults are noted at p: f -/
def pj_Ef (p f : Nat) (fy : Int32) (fb : Nat → Int32) (fy' : Int32) (fb' : Nat → Int32) : Prop := fb' = pj_or fb p (nI f) ∧ (f = 0 → fy' = fy) ∧ (f ≠ 0 → fy' = 1)
theorem pj_or0 (f : Nat → Int32) (p : Nat) : pj_or f p (nI 0) = f := by
  funext j
  show (if j = p then f p ||| 0 else f j) = f j
  split
  · rename_i e; rw [e]; exact Int32.or_zero
  · rfl
theorem pj_Ef0 (p : Nat) (fy : Int32) (fb : Nat → Int32) : pj_Ef p 0 fy fb fy fb := ⟨(pj_or0 fb p).symm, fun _ => rfl, fun h => absurd rfl h⟩
theorem pj_nIor (a b : Nat) : nI a ||| nI b = nI (a ||| b) := by
  apply Int32.toBitVec_inj.1
  show BitVec.ofNat 32 a ||| BitVec.ofNat 32 b = BitVec.ofNat 32 (a ||| b)
  apply BitVec.eq_of_getLsbD_eq
  intro i hi
  simp [hi]
theorem pj_oror (f : Nat → Int32) (p : Nat) (x y : Int32) : pj_or (pj_or f p x) p y = pj_or f p (x ||| y) := by
  funext j
  unfold pj_or
  by_cases e : j = p
  · subst e
    rw [pk_us, pk_us, pk_us, Int32.or_assoc]
  · rw [pk_un e, pk_un e, pk_un e]
theorem pj_Eft {p f g : Nat} {fy fy' fy'' : Int32} {fb fb' fb'' : Nat → Int32} (h : pj_Ef p f fy fb fy' fb') (h' : pj_Ef p g fy' fb' fy'' fb'') : pj_Ef p (f ||| g) fy fb fy'' fb'' := by
  obtain ⟨rfl, h1, h2⟩ := h
  obtain ⟨rfl, h3, h4⟩ := h'
  refine ⟨by rw [pj_oror, pj_nIor], fun z => ?_, fun z => ?_⟩
  · rw [Nat.or_eq_zero_iff] at z
    rw [h3 z.2, h1 z.1]
  · rw [Ne, Nat.or_eq_zero_iff] at z
    by_cases g0 : g = 0
    · rw [h3 g0]
      exact h2 (fun f0 => z ⟨f0, g0⟩)
    · exact h4 g0
theorem pj_nb0 : vp_nar .boolean 0 = 0 := rfl
theorem pj_nb1 : vp_nar .boolean 1 = 1 := rfl
section
variable {f_maxHeight f_pool f_length f_faulty f_queued f_kindHeight f_status f_position f_height f_records f_choices f_forks : Int32} {a_ops a_args a_faultBits a_heightBits a_kindBits a_leastSteps a_queue a_queueSteps a_reached a_kindStack a_kindLocals a_stack a_locals a_fields : Nat → Int32} {n mh : Nat} {O : Nat → Nat} {G : Nat → Int32}
theorem mx_noteFault {post : SX → Prop} {p : Nat} {x : Int32} (hp : p < 16) (H : post (f_maxHeight, f_pool, f_length, 1, f_queued, f_kindHeight, f_status, f_position, f_height, f_records, f_choices, f_forks, a_ops, a_args, pj_or a_faultBits p x, a_heightBits, a_kindBits, a_leastSteps, a_queue, a_queueSteps, a_reached, a_kindStack, a_kindLocals, a_stack, a_locals, a_fields)) : wpX_noteFault post (f_maxHeight, f_pool, f_length, f_faulty, f_queued, f_kindHeight, f_status, f_position, f_height, f_records, f_choices, f_forks, a_ops, a_args, a_faultBits, a_heightBits, a_kindBits, a_leastSteps, a_queue, a_queueSteps, a_reached, a_kindStack, a_kindLocals, a_stack, a_locals, a_fields) (nI p) x := by
  refine ⟨vp_in_nI hp (by decide), vp_in_nI hp (by decide), ?_⟩
  intro a ea
  subst ea
  rw [nI_clamp (by omega)]
  exact H
theorem mx_isPos {post : Int32 → Prop} {q : Int32} (hn : n ≤ 16) (hl : f_length = nI n) (H0 : q < 0 ∨ nI n ≤ q → post 0) (H1 : ∀ j, j < n → q = nI j → post 1) : wpX_isPosition post (f_maxHeight, f_pool, f_length, f_faulty, f_queued, f_kindHeight, f_status, f_position, f_height, f_records, f_choices, f_forks, a_ops, a_args, a_faultBits, a_heightBits, a_kindBits, a_leastSteps, a_queue, a_queueSteps, a_reached, a_kindStack, a_kindLocals, a_stack, a_locals, a_fields) q := by
  subst hl
  rcases pk_ix q (n := n) (by omega) with h | h | ⟨j, hj, rfl⟩
  · exact br_t h (H0 (Or.inl h))
  · by_cases h0 : q < 0
    · exact br_t h0 (H0 (Or.inl h0))
    · exact br_f h0 (br_t h (H0 (Or.inr h)))
  · exact br_f (nI_pos (by omega)) (br_f (nI_ge hj (by omega)) (H1 j hj rfl))
theorem mx_sitL {post : Int32 → Prop} {v a b : Nat} {x1 : Int32} (V : pj_V v f_kindHeight a_kindStack) (A : pj_A a b a_kindLocals) (ha : a < 3) (hb : b < 3) (H : post ((x1 * 121 + nI (pj_xr v)) * 9 + nI (a * 3 + b))) :
    ∀ i x, i ≤ pj_hg v → pj_fo v i x = pj_xr v → wX_situationNumber_9 post x1 f_maxHeight f_pool f_length f_faulty f_queued f_kindHeight f_status f_position f_height f_records f_choices f_forks a_ops a_args a_faultBits a_heightBits a_kindBits a_leastSteps a_queue a_queueSteps a_reached a_kindStack a_kindLocals a_stack a_locals a_fields (i + 1) (nI x) (nI i - 1) := by
  intro i
  induction i with
  | zero =>
    intro x _ hx
    have hx' : x = pj_xr v := hx
    subst hx'
    refine br_t (by decide) (nm_r (e' := nI (a * 3 + b)) ?_ H)
    rw [A.1, A.2, pj_kdshr a ha, pj_kdshr b hb, show (3 : Int32) = nI 3 from rfl, pk_mul, nI_add]
  | succ i ih =>
    intro x hi hx
    have h4 := pj_hgle v
    rw [nI_pred]
    refine br_f (nI_pos (by omega)) ⟨vp_in_nI (by omega) (by decide), ?_⟩
    refine nm_r (e' := nI (x * 3 + 1 + pj_dg v i)) ?_ (nm_r (e' := nI i - 1) ?_ (ih _ (by omega) hx))
    · rw [nI_clamp (by omega), V.2 i (by omega), pj_kdshr _ (pj_dg3 v i), show (3 : Int32) = nI 3 from rfl, pk_mul, nI_1, nI_add]
    · rw [Int32.sub_eq_add_neg]
theorem mx_sitNum {post : Int32 → Prop} {s q : Nat} (P : pj_P s f_kindHeight a_kindStack a_kindLocals) (hs : s < 1089) (H : post (nI (pj_xn q s))) : wpX_situationNumber post (f_maxHeight, f_pool, f_length, f_faulty, f_queued, f_kindHeight, f_status, f_position, f_height, f_records, f_choices, f_forks, a_ops, a_args, a_faultBits, a_heightBits, a_kindBits, a_leastSteps, a_queue, a_queueSteps, a_reached, a_kindStack, a_kindLocals, a_stack, a_locals, a_fields) (nI q) := by
  obtain ⟨V, A⟩ := P
  refine nm_r (e' := nI (pj_hg (s / 9)) - 1) (by rw [V.1]) ⟨pj_hg (s / 9) + 1, ?_⟩
  refine mx_sitL V A (by omega) (by omega) ?_ _ 0 (Nat.le_refl _) rfl
  rw [show (121 : Int32) = nI 121 from rfl, show (9 : Int32) = nI 9 from rfl, pk_mul, nI_add, pk_mul, nI_add]
  have e : (q * 121 + pj_xr (s / 9)) * 9 + (s / 3 % 3 * 3 + s % 3) = pj_xn q s := by unfold pj_xn; omega
  rw [e]
  exact H
theorem mx_reach {post : SX → Prop} {p s e m : Nat} {q : Int32} {Q T : Nat → Nat} (hn : n ≤ 16) (hp : p < 16) (hl : f_length = nI n) (hm : f_queued = nI m) (hQ : a_queue = pj_nF Q) (hT : a_queueSteps = pj_nF T)
    (P : pj_P s f_kindHeight a_kindStack a_kindLocals) (hs : s < 1089) (I : pj_Q n mh O G m Q T a_reached) (hb : ∀ j, j < m → T j ≤ e) (he : e ≤ m) (hD : ∀ j, j < n → q = nI j → pj_D n mh O G e j s)
    (H : ∀ f fy fb m' Q' T' R', pj_Ef p f f_faulty a_faultBits fy fb → ((q < 0 ∨ nI n ≤ q) → f = 8) → (∀ j, j < n → q = nI j → f = 0 ∧ ∃ i, i < m' ∧ Q' i = pj_xn j s ∧ T' i ≤ e) → pj_Q n mh O G m' Q' T' R' → pj_E m Q T m' Q' T' → (∀ i, i < m' → T' i ≤ e) →
      post (f_maxHeight, f_pool, f_length, fy, nI m', f_kindHeight, f_status, f_position, f_height, f_records, f_choices, f_forks, a_ops, a_args, fb, a_heightBits, a_kindBits, a_leastSteps, pj_nF Q', pj_nF T', R', a_kindStack, a_kindLocals, a_stack, a_locals, a_fields)) : wpX_reach post (f_maxHeight, f_pool, f_length, f_faulty, f_queued, f_kindHeight, f_status, f_position, f_height, f_records, f_choices, f_forks, a_ops, a_args, a_faultBits, a_heightBits, a_kindBits, a_leastSteps, a_queue, a_queueSteps, a_reached, a_kindStack, a_kindLocals, a_stack, a_locals, a_fields) (nI p) q (nI e) := by
  subst hm hQ hT
  unfold wpX_reach
  refine mx_isPos hn hl (fun h => br_t rfl (mx_noteFault hp ?_)) (fun j hj ej => br_f (by decide) ?_)
  · refine H 8 1 _ m Q T _ ⟨rfl, fun z => absurd z (by decide), fun _ => rfl⟩ (fun _ => rfl) (fun j hj ej => ?_) I (pj_Er _ _ _) hb
    subst ej
    rcases h with h | h
    · exact absurd h (nI_pos (by omega))
    · exact absurd h (nI_ge hj (by omega))
  · have hno : ¬ (q < 0 ∨ nI n ≤ q) := by
      subst ej
      rintro (h | h)
      · exact nI_pos (by omega) h
      · exact nI_ge hj (by omega) h
    have hu : ∀ j', j' < n → q = nI j' → j' = j := fun j' h1 h2 => (nI_eq (by omega) (by omega)).mp (h2.symm.trans ej)
    have hDj := hD j hj ej
    rw [ej]
    refine mx_sitNum P hs ?_
    have hN := pj_xnlt (p := j) (s := s) (by omega) hs
    have hm := pj_Qm I
    refine ⟨vp_in_nI hN (by decide), ?_⟩
    rw [nI_clamp (by omega)]
    have keep : ¬ a_reached (pj_xn j s) = 0 → post (f_maxHeight, f_pool, f_length, f_faulty, nI m, f_kindHeight, f_status, f_position, f_height, f_records, f_choices, f_forks, a_ops, a_args, a_faultBits, a_heightBits, a_kindBits, a_leastSteps, pj_nF Q, pj_nF T, a_reached, a_kindStack, a_kindLocals, a_stack, a_locals, a_fields) := fun hR => by
      refine H 0 _ _ m Q T _ (pj_Ef0 _ _ _) (fun h => absurd h hno) (fun j' h1 h2 => ⟨rfl, ?_⟩) I (pj_Er _ _ _) hb
      rw [hu j' h1 h2]
      obtain ⟨i, hi, ei⟩ := I.2.1 _ hN hR
      exact ⟨i, hi, ei, hb i hi⟩
    by_cases hR : a_reached (pj_xn j s) = 0
    · obtain ⟨hlt, I'⟩ := pj_Qnew I hN hR (by rw [pj_ypx hs, pj_ysx hs]; exact hDj) hb he
      refine br_t hR (br_t (nI_lt (b := 17424) hlt (by decide)) ⟨vp_in_nI hN (by decide), ?_⟩)
      refine nm_e ⟨vp_in_nI hlt (by decide), nm_e ⟨vp_in_nI hlt (by decide), nm_e (nm_e ?_)⟩⟩
      rw [nI_clamp (by omega), pj_nFu, pj_nFu, pj_nb1, nI_1]
      refine H 0 _ _ (m + 1) _ _ _ (pj_Ef0 _ _ _) (fun h => absurd h hno) (fun j' h1 h2 => ⟨rfl, ?_⟩) I' ⟨by omega, fun j hj => ⟨pj_uNn (by omega), pj_uNn (by omega)⟩⟩ (fun i hi => ?_)
      · rw [hu j' h1 h2]
        exact ⟨m, by omega, pj_uNs, by rw [pj_uNs]; exact Nat.le_refl _⟩
      · rcases Nat.lt_or_ge i m with h | h
        · rw [pj_uNn (by omega)]; exact hb i h
        · have ei : i = m := by omega
          subst ei
          rw [pj_uNs]
          exact Nat.le_refl _
    · exact br_f hR (keep hR)
theorem mx_takeL {post : Int32 → SX → Prop} {v : Nat} {x1 : Int32} (hv : v < 121) (H : ∀ kh ks, pj_V v kh ks → post ((x1 / 9) / 121) (f_maxHeight, f_pool, f_length, f_faulty, f_queued, kh, f_status, f_position, f_height, f_records, f_choices, f_forks, a_ops, a_args, a_faultBits, a_heightBits, a_kindBits, a_leastSteps, a_queue, a_queueSteps, a_reached, ks, a_kindLocals, a_stack, a_locals, a_fields)) :
    ∀ d i ks, i + d = pj_hg v → (∀ j, j < i → ks j = pj_kd (pj_dg v j)) → wX_takeSituation_43 post x1 (d + 1) (nI (pj_pp i (pj_xr v))) (nI i) f_maxHeight f_pool f_length f_faulty f_queued (nI i) f_status f_position f_height f_records f_choices f_forks a_ops a_args a_faultBits a_heightBits a_kindBits a_leastSteps a_queue a_queueSteps a_reached (ks) a_kindLocals a_stack a_locals a_fields := by
  intro d
  have h4 := pj_hgle v
  have hx := (pj_xr121 v hv).1
  induction d with
  | zero =>
    intro i ks hi hks
    have e : i = pj_hg v := by omega
    subst e
    have hp := H _ ks ⟨rfl, hks⟩
    refine pk_le 4 (pj_hg v) (fun _ => ⟨by decide, by decide, hp⟩) (fun _ => ?_)
    rw [pj_take0 v hv]
    exact br_t (by decide) ⟨by decide, by decide, hp⟩
  | succ d ih =>
    intro i ks hi hks
    obtain ⟨t1, t2⟩ := pj_take v hv i (by omega) (by omega)
    have hle := pj_pplt i (pj_xr v)
    refine br_f (nI_ge (b := 4) (by omega) (by decide)) (br_f (nI_nle t1 (by omega)) ⟨by decide, ?_⟩)
    have e1 : nI (pj_pp i (pj_xr v)) - 1 = nI (pj_pp i (pj_xr v) - 1) := by rw [show (1 : Int32) = nI 1 from rfl, pk_sub (by omega)]
    have e2 : (1 : Int32) <<< ((nI (pj_pp i (pj_xr v)) - 1 - (nI (pj_pp i (pj_xr v)) - 1) / 3 * 3) &&& 31) = pj_kd (pj_dg v i) := by
      rw [e1, show (3 : Int32) = nI 3 from rfl, pk_rem (by omega) (by omega) (by omega), t2]
      exact pj_kdshl _ (pj_dg3 v i)
    have e3 : (nI (pj_pp i (pj_xr v)) - 1) / 3 = nI (pj_pp (i + 1) (pj_xr v)) := by
      rw [e1, show (3 : Int32) = nI 3 from rfl, pk_div (by omega) (by omega) (by omega), pj_pps]
    refine br_f (nI_ge (b := 4) (by omega) (by decide)) ⟨vp_in_nI (by omega) (by decide), nm_e (nm_e ?_)⟩
    refine ⟨by decide, nm_r e3 (nm_r (nI_1 i) ?_)⟩
    rw [nI_clamp (by omega), e2, nI_1]
    refine ih (i + 1) _ (by omega) (fun j hj => ?_)
    rcases Nat.lt_or_ge j i with h | h
    · rw [pk_un (by omega)]; exact hks j h
    · have ej : j = i := by omega
      subst ej
      rw [pk_us]
theorem mx_take {post : Int32 → SX → Prop} {p s : Nat} (hp : p < 16) (hs : s < 1089) (H : ∀ kh ks kl, pj_P s kh ks kl → post (nI p) (f_maxHeight, f_pool, f_length, f_faulty, f_queued, kh, f_status, f_position, f_height, f_records, f_choices, f_forks, a_ops, a_args, a_faultBits, a_heightBits, a_kindBits, a_leastSteps, a_queue, a_queueSteps, a_reached, ks, kl, a_stack, a_locals, a_fields)) : wpX_takeSituation post (f_maxHeight, f_pool, f_length, f_faulty, f_queued, f_kindHeight, f_status, f_position, f_height, f_records, f_choices, f_forks, a_ops, a_args, a_faultBits, a_heightBits, a_kindBits, a_leastSteps, a_queue, a_queueSteps, a_reached, a_kindStack, a_kindLocals, a_stack, a_locals, a_fields) (nI (pj_xn p s)) := by
  have hN := pj_xnlt hp hs
  have hx := (pj_xr121 (s / 9) (by omega)).1
  have q1 : pj_xn p s % 9 = s % 9 := by unfold pj_xn; omega
  have q2 : pj_xn p s / 9 % 121 = pj_xr (s / 9) := by unfold pj_xn; omega
  have q3 : pj_xn p s / 9 / 121 = p := by unfold pj_xn; omega
  have n9 : (9 : Int32) = nI 9 := rfl
  have n3 : (3 : Int32) = nI 3 := rfl
  have n121 : (121 : Int32) = nI 121 := rfl
  refine ⟨by decide, nm_r (e' := nI (s % 9)) ?_ ⟨by decide, nm_r (e' := upd a_kindLocals 0 (pj_kd (s / 3 % 3))) ?_ ⟨by decide, nm_r (e' := upd (upd a_kindLocals 0 (pj_kd (s / 3 % 3))) 1 (pj_kd (s % 3))) ?_ ⟨by decide, by decide, nm_r (e' := nI (pj_xr (s / 9))) ?_ ⟨pj_hg (s / 9) + 1, ?_⟩⟩⟩⟩⟩
  · rw [n9, pk_rem (by omega) (by omega) (by omega), q1]
  · rw [n3, pk_div (by omega) (by omega) (by omega), show s % 9 / 3 = s / 3 % 3 by omega, pj_kdshl _ (by omega)]
  · rw [n3, pk_rem (by omega) (by omega) (by omega), show s % 9 % 3 = s % 3 by omega, pj_kdshl _ (by omega)]
  · rw [n9, n121, pk_div (by omega) (by omega) (by omega), pk_rem (by omega) (by omega) (by omega), q2]
  · refine mx_takeL (by omega) (fun kh ks V => ?_) (pj_hg (s / 9)) 0 a_kindStack (by omega) (fun j hj => by omega)
    rw [n9, n121, pk_div (by omega) (by omega) (by omega), pk_div (by omega) (by omega) (by omega), q3]
    exact H _ _ _ ⟨V, by rw [pk_un (by decide), pk_us], by rw [pk_us]⟩
end
end
section
/-! the component's checker: noting, following, forgetting -/
theorem pj_btkd : ∀ d, d < 3 → ∀ b, b < 32 → bt (pj_kd d) b = decide (d = b) := by decide +kernel
theorem pj_sh1 : ∀ h, h < 5 → (1 : Int32) <<< (nI h &&& 31) = nI (2 ^ h) := by decide +kernel
theorem pj_orK {f : Nat → Int32} {x0 d : Nat} (hd : d < 3) {x b : Nat} (hb : b < 32) : bt (pj_or f x0 (pj_kd d) x) b = true ↔ bt (f x) b = true ∨ (x = x0 ∧ d = b) := by
  unfold pj_or
  by_cases e : x = x0
  · subst e
    rw [pk_us, b_or, pj_btkd d hd b hb, Bool.or_eq_true, decide_eq_true_iff]
    exact ⟨fun h => h.elim Or.inl (fun h => Or.inr ⟨rfl, h⟩), fun h => h.elim Or.inl (fun h => Or.inr h.2)⟩
  · rw [pk_un e]
    exact ⟨Or.inl, fun h => h.elim id (fun h => absurd h.1 e)⟩
section
variable {f_maxHeight f_pool f_length f_faulty f_queued f_kindHeight f_status f_position f_height f_records f_choices f_forks : Int32} {a_ops a_args a_faultBits a_heightBits a_kindBits a_leastSteps a_queue a_queueSteps a_reached a_kindStack a_kindLocals a_stack a_locals a_fields : Nat → Int32} {n mh : Nat} {O : Nat → Nat} {G : Nat → Int32}
theorem mx_cells {post : Int32 → Prop} {o : Nat} (ho : o ≤ 13) (H : post (nI (pj_nd o))) : wpX_cellsNeeded post (nI o) := by
  unfold wpX_cellsNeeded
  rcases pj_o14 ho with rfl | rfl | rfl | rfl | rfl | rfl | rfl | rfl | rfl | rfl | rfl | rfl | rfl | rfl <;> ((repeat (first | refine br_t (by decide) ?_ | refine br_f (by decide) ?_)); exact H)
theorem mx_room {post : Int32 → Prop} {o : Nat} (ho : o ≤ 13) (H1 : (o = 0 ∨ o = 1 ∨ o = 3 ∨ o = 8) → post 1) (H0 : ¬ (o = 0 ∨ o = 1 ∨ o = 3 ∨ o = 8) → post 0) : wpX_needsRoom post (nI o) := by
  unfold wpX_needsRoom
  rcases pj_o14 ho with rfl | rfl | rfl | rfl | rfl | rfl | rfl | rfl | rfl | rfl | rfl | rfl | rfl | rfl <;> ((repeat (first | refine br_t (by decide) ?_ | refine br_f (by decide) ?_)); first | exact H1 (by decide) | exact H0 (by decide))
theorem mx_note86 {post : SX → Prop} {sl a b : Nat} (hsl : sl + 5 < 480) (A : pj_A a b a_kindLocals) (H : post (f_maxHeight, f_pool, f_length, f_faulty, f_queued, f_kindHeight, f_status, f_position, f_height, f_records, f_choices, f_forks, a_ops, a_args, a_faultBits, a_heightBits, pj_or (pj_or a_kindBits (sl + 4) (pj_kd a)) (sl + 5) (pj_kd b), a_leastSteps, a_queue, a_queueSteps, a_reached, a_kindStack, a_kindLocals, a_stack, a_locals, a_fields)) : wX_noteSituation_86 post (nI sl) f_maxHeight f_pool f_length f_faulty f_queued f_kindHeight f_status f_position f_height f_records f_choices f_forks 3 0 a_ops a_args a_faultBits a_heightBits a_kindBits a_leastSteps a_queue a_queueSteps a_reached a_kindStack a_kindLocals a_stack a_locals a_fields := by
  have n4 : (4 : Int32) = nI 4 := rfl
  have e4 : nI sl + 4 + 0 = nI (sl + 4) := by rw [n4, nI_add]; exact Int32.add_zero _
  have e5 : nI sl + 4 + 1 = nI (sl + 5) := by rw [n4, nI_add, nI_1]
  refine br_f (by decide) ?_
  rw [e4]
  refine ⟨vp_in_nI (by omega) (by decide), vp_in_iff.mpr (by decide), vp_in_nI (by omega) (by decide), nm_e (nm_r (e' := 1) (by decide) ?_)⟩
  refine br_f (by decide) ?_
  rw [e5]
  refine ⟨vp_in_nI (by omega) (by decide), vp_in_iff.mpr (by decide), vp_in_nI (by omega) (by decide), nm_e (nm_r (e' := 2) (by decide) ?_)⟩
  refine br_t (by decide) ?_
  rw [nI_clamp (by omega), nI_clamp (by omega)]
  rw [← A.1, ← A.2] at H
  exact H
theorem mx_note43 {post : SX → Prop} {sl v : Nat} (hsl : sl + 5 < 480) (V : pj_V v f_kindHeight a_kindStack)
    (H : ∀ kb, (∀ x b, b < 32 → (bt (kb x) b = true ↔ bt (a_kindBits x) b = true ∨ ∃ pl, pl < pj_hg v ∧ x = sl + pl ∧ pj_dg v pl = b)) → wX_noteSituation_86 post (nI sl) f_maxHeight f_pool f_length f_faulty f_queued f_kindHeight f_status f_position f_height f_records f_choices f_forks 3 0 a_ops a_args a_faultBits a_heightBits (kb) a_leastSteps a_queue a_queueSteps a_reached a_kindStack a_kindLocals a_stack a_locals a_fields) :
    ∀ d i kb, i + d = pj_hg v → (∀ x b, b < 32 → (bt (kb x) b = true ↔ bt (a_kindBits x) b = true ∨ ∃ pl, pl < i ∧ x = sl + pl ∧ pj_dg v pl = b)) → wX_noteSituation_43 post (nI sl) f_maxHeight f_pool f_length f_faulty f_queued f_kindHeight f_status f_position f_height f_records f_choices f_forks (d + 1) (nI i) a_ops a_args a_faultBits a_heightBits (kb) a_leastSteps a_queue a_queueSteps a_reached a_kindStack a_kindLocals a_stack a_locals a_fields := by
  intro d
  have h4 := pj_hgle v
  induction d with
  | zero =>
    intro i kb hi hk
    have e : i = pj_hg v := by omega
    subst e
    exact br_t (by rw [V.1]; exact nI_le (Nat.le_refl _) (by omega)) ⟨3, H kb hk⟩
  | succ d ih =>
    intro i kb hi hk
    refine br_f (by rw [V.1]; exact nI_ge (by omega) (by omega)) (br_f (nI_ge (b := 4) (by omega) (by decide)) ?_)
    rw [nI_add]
    refine ⟨vp_in_nI (by omega) (by decide), vp_in_nI (by omega) (by decide), vp_in_nI (by omega) (by decide), nm_e (nm_r (nI_1 i) ?_)⟩
    rw [nI_clamp (by omega), nI_clamp (by omega), V.2 i (by omega)]
    refine ih (i + 1) _ (by omega) (fun x b hb => ?_)
    have h1 := pj_orK (f := kb) (x0 := sl + i) (pj_dg3 v i) (x := x) hb
    refine h1.trans ?_
    rw [hk x b hb]
    constructor
    · rintro ((h | ⟨pl, h2, h3⟩) | ⟨h2, h3⟩)
      · exact Or.inl h
      · exact Or.inr ⟨pl, by omega, h3⟩
      · exact Or.inr ⟨i, by omega, h2, h3⟩
    · rintro (h | ⟨pl, h2, h3, h4⟩)
      · exact Or.inl (Or.inl h)
      · by_cases e : pl = i
        · subst e
          exact Or.inr ⟨h3, h4⟩
        · exact Or.inl (Or.inr ⟨pl, by omega, h3, h4⟩)
theorem mx_note {post : SX → Prop} {p s : Nat} {t : Int32} (hp : p < 16) (P : pj_P s f_kindHeight a_kindStack a_kindLocals) (hs : s < 1089)
    (H : ∀ kb ls, (∀ x b, b < 32 → (bt (kb x) b = true ↔ bt (a_kindBits x) b = true ∨ ∃ pl, pl < 6 ∧ x = (p * 5 + pj_hg (s / 9)) * 6 + pl ∧ pj_Kd s (pj_hg (s / 9)) pl b)) → (0 ≤ a_leastSteps p → ls = a_leastSteps) → (¬ 0 ≤ a_leastSteps p → ls = upd a_leastSteps p t) →
      post (f_maxHeight, f_pool, f_length, f_faulty, f_queued, f_kindHeight, f_status, f_position, f_height, f_records, f_choices, f_forks, a_ops, a_args, a_faultBits, pj_or a_heightBits p (nI (2 ^ pj_hg (s / 9))), kb, ls, a_queue, a_queueSteps, a_reached, a_kindStack, a_kindLocals, a_stack, a_locals, a_fields)) : wpX_noteSituation post (f_maxHeight, f_pool, f_length, f_faulty, f_queued, f_kindHeight, f_status, f_position, f_height, f_records, f_choices, f_forks, a_ops, a_args, a_faultBits, a_heightBits, a_kindBits, a_leastSteps, a_queue, a_queueSteps, a_reached, a_kindStack, a_kindLocals, a_stack, a_locals, a_fields) (nI p) t := by
  have h4 := pj_hgle (s / 9)
  obtain ⟨V, A⟩ := P
  have key : ∀ ls, (0 ≤ a_leastSteps p → ls = a_leastSteps) → (¬ 0 ≤ a_leastSteps p → ls = upd a_leastSteps p t) → wX_noteSituation_16 post (nI p) f_maxHeight f_pool f_length f_faulty f_queued f_kindHeight f_status f_position f_height f_records f_choices f_forks a_ops a_args a_faultBits a_heightBits a_kindBits (ls) a_queue a_queueSteps a_reached a_kindStack a_kindLocals a_stack a_locals a_fields := fun ls l1 l2 => by
    refine ⟨vp_in_nI hp (by decide), vp_in_nI hp (by decide), nm_r (e' := pj_or a_heightBits p (nI (2 ^ pj_hg (s / 9)))) ?_ ?_⟩
    · rw [nI_clamp (by omega), V.1, pj_sh1 _ (by omega)]
      rfl
    · refine ⟨pj_hg (s / 9) + 1, ?_⟩
      have e : (nI p * 5 + f_kindHeight) * 6 = nI ((p * 5 + pj_hg (s / 9)) * 6) := by
        rw [V.1, show (5 : Int32) = nI 5 from rfl, show (6 : Int32) = nI 6 from rfl, pk_mul, nI_add, pk_mul]
      rw [e]
      refine mx_note43 (by omega) V (fun kb hk => ?_) (pj_hg (s / 9)) 0 a_kindBits (by omega) (fun x b hb => ⟨Or.inl, fun h => h.elim id (fun ⟨pl, h, _⟩ => by omega)⟩)
      refine mx_note86 (by omega) A (H _ ls (fun x b hb => ?_) l1 l2)
      have ha : s / 3 % 3 < 3 := by omega
      have hb3 : s % 3 < 3 := by omega
      refine (pj_orK hb3 hb).trans ?_
      rw [pj_orK ha hb, hk x b hb]
      unfold pj_Kd
      constructor
      · rintro (((h | ⟨pl, h1, h2, h3⟩) | ⟨h1, h2⟩) | ⟨h1, h2⟩)
        · exact Or.inl h
        · exact Or.inr ⟨pl, by omega, h2, Or.inl ⟨h1, h3⟩⟩
        · exact Or.inr ⟨4, by omega, h1, Or.inr (Or.inl ⟨rfl, h2⟩)⟩
        · exact Or.inr ⟨5, by omega, h1, Or.inr (Or.inr ⟨rfl, h2⟩)⟩
      · rintro (h | ⟨pl, h1, h2, (⟨h3, h5⟩ | ⟨rfl, h5⟩ | ⟨rfl, h5⟩)⟩)
        · exact Or.inl (Or.inl (Or.inl h))
        · exact Or.inl (Or.inl (Or.inr ⟨pl, h3, h2, h5⟩))
        · exact Or.inl (Or.inr ⟨h2, h5⟩)
        · exact Or.inr ⟨h2, h5⟩
  refine ⟨vp_in_nI hp (by decide), br_c (fun h => ?_) (fun h => ⟨vp_in_nI hp (by decide), nm_e ?_⟩)⟩
  · rw [nI_clamp (by omega)] at h
    exact key _ (fun _ => rfl) (fun z => absurd h z)
  · rw [nI_clamp (by omega)] at h
    rw [nI_clamp (by omega)]
    exact key _ (fun z => absurd z h) (fun _ => rfl)
/-! following -/
theorem mx_f99 {post : SX → Prop} {p s e m o : Nat} {Q T : Nat → Nat} (hn : n ≤ 16) (hp : p < n) (ho : o ≤ 13) (hl : f_length = nI n) (hm : f_queued = nI m) (hQ : a_queue = pj_nF Q) (hT : a_queueSteps = pj_nF T)
    (P : pj_P s f_kindHeight a_kindStack a_kindLocals) (hs : s < 1089) (I : pj_Q n mh O G m Q T a_reached) (hb : ∀ j, j < m → T j ≤ e) (he : e ≤ m) (hD : o ≠ 10 → o ≠ 13 → p + 1 < n → pj_D n mh O G e (p + 1) s)
    (H : ∀ f fy fb m' Q' T' R', pj_Ef p f f_faulty a_faultBits fy fb → (f = if o ≠ 10 ∧ o ≠ 13 ∧ n ≤ p + 1 then 8 else 0) → (o ≠ 10 → o ≠ 13 → p + 1 < n → ∃ i, i < m' ∧ Q' i = pj_xn (p + 1) s ∧ T' i ≤ e) → pj_Q n mh O G m' Q' T' R' → pj_E m Q T m' Q' T' → (∀ i, i < m' → T' i ≤ e) →
      post (f_maxHeight, f_pool, f_length, fy, nI m', f_kindHeight, f_status, f_position, f_height, f_records, f_choices, f_forks, a_ops, a_args, fb, a_heightBits, a_kindBits, a_leastSteps, pj_nF Q', pj_nF T', R', a_kindStack, a_kindLocals, a_stack, a_locals, a_fields)) : wX_follow_99 post (nI p) (nI e) (nI o) f_maxHeight f_pool f_length f_faulty f_queued f_kindHeight f_status f_position f_height f_records f_choices f_forks a_ops a_args a_faultBits a_heightBits a_kindBits a_leastSteps a_queue a_queueSteps a_reached a_kindStack a_kindLocals a_stack a_locals a_fields := by
  have same : ¬ (o ≠ 10 ∧ o ≠ 13) → post (f_maxHeight, f_pool, f_length, f_faulty, f_queued, f_kindHeight, f_status, f_position, f_height, f_records, f_choices, f_forks, a_ops, a_args, a_faultBits, a_heightBits, a_kindBits, a_leastSteps, a_queue, a_queueSteps, a_reached, a_kindStack, a_kindLocals, a_stack, a_locals, a_fields) := fun h => by
    subst hm hQ hT
    refine H 0 _ _ m Q T _ (pj_Ef0 _ _ _) (by rw [if_neg (fun z => h ⟨z.1, z.2.1⟩)]) (fun h1 h2 => absurd ⟨h1, h2⟩ h) I (pj_Er _ _ _) hb
  refine pk_eq o 10 (fun h => same (by omega)) (fun h10 => pk_eq o 13 (fun h => same (by omega)) (fun h13 => ?_))
  rw [nI_1]
  refine mx_reach hn (by omega) hl hm hQ hT P hs I hb he (fun j hj ej => ?_) (fun f fy fb m' Q' T' R' h1 h2 h3 h4 h5 h6 => H f fy fb m' Q' T' R' h1 ?_ (fun _ _ h => (h3 _ h rfl).2) h4 h5 h6)
  · have e1 := (nI_eq (by omega) (by omega)).mp ej
    subst e1
    exact hD h10 h13 hj
  · rcases Nat.lt_or_ge (p + 1) n with h | h
    · rw [if_neg (by omega)]
      exact (h3 _ h rfl).1
    · rw [if_pos ⟨h10, h13, h⟩]
      exact h2 (Or.inr (nI_le h (by omega)))
theorem mx_f87 {post : SX → Prop} {p s e m o : Nat} {Q T : Nat → Nat} (hn : n ≤ 16) (hp : p < n) (ho : o ≤ 13) (hl : f_length = nI n) (hm : f_queued = nI m) (hQ : a_queue = pj_nF Q) (hT : a_queueSteps = pj_nF T)
    (P : pj_P s f_kindHeight a_kindStack a_kindLocals) (hs : s < 1089) (I : pj_Q n mh O G m Q T a_reached) (hb : ∀ j, j < m → T j ≤ e) (he : e ≤ m) (hD : o ≠ 10 → o ≠ 13 → p + 1 < n → pj_D n mh O G e (p + 1) s) (hD2 : ∀ j, j < n → a_args p = nI j → pj_D n mh O G e j s)
    (H : ∀ f fy fb m' Q' T' R', pj_Ef p f f_faulty a_faultBits fy fb → (f = if (a_args p < 0 ∨ nI n ≤ a_args p) ∨ (o ≠ 10 ∧ o ≠ 13 ∧ n ≤ p + 1) then 8 else 0) → (∀ j, j < n → a_args p = nI j → ∃ i, i < m' ∧ Q' i = pj_xn j s ∧ T' i ≤ e) → (o ≠ 10 → o ≠ 13 → p + 1 < n → ∃ i, i < m' ∧ Q' i = pj_xn (p + 1) s ∧ T' i ≤ e) → pj_Q n mh O G m' Q' T' R' → pj_E m Q T m' Q' T' → (∀ i, i < m' → T' i ≤ e) →
      post (f_maxHeight, f_pool, f_length, fy, nI m', f_kindHeight, f_status, f_position, f_height, f_records, f_choices, f_forks, a_ops, a_args, fb, a_heightBits, a_kindBits, a_leastSteps, pj_nF Q', pj_nF T', R', a_kindStack, a_kindLocals, a_stack, a_locals, a_fields)) : wX_follow_87 post (nI p) (nI e) (nI o) f_maxHeight f_pool f_length f_faulty f_queued f_kindHeight f_status f_position f_height f_records f_choices f_forks a_ops a_args a_faultBits a_heightBits a_kindBits a_leastSteps a_queue a_queueSteps a_reached a_kindStack a_kindLocals a_stack a_locals a_fields := by
  refine ⟨vp_in_nI (by omega) (by decide), ?_⟩
  rw [nI_clamp (by omega)]
  refine mx_reach hn (by omega) hl hm hQ hT P hs I hb he hD2 (fun f fy fb m' Q' T' R' h1 h2 h3 h4 h5 h6 => ?_)
  refine mx_f99 hn hp ho hl rfl rfl rfl P hs h4 h6 (by have := h5.1; omega) hD (fun g gy gb m2 Q2 T2 R2 k1 k2 k3 k4 k5 k6 => ?_)
  refine H (f ||| g) gy gb m2 Q2 T2 R2 (pj_Eft h1 k1) ?_ (fun j hj ej => ?_) k3 k4 (pj_Et h5 k5) k6
  · by_cases c1 : a_args p < 0 ∨ nI n ≤ a_args p
    · rw [if_pos (Or.inl c1), h2 c1, k2]
      split <;> rfl
    · have : f = 0 := by
        rcases pk_ix (a_args p) (n := n) (by omega) with h | h | ⟨j, hj, ej⟩
        · exact absurd (Or.inl h) c1
        · exact absurd (Or.inr h) c1
        · exact (h3 j hj ej).1
      subst this
      rw [k2, Nat.zero_or]
      by_cases c2 : o ≠ 10 ∧ o ≠ 13 ∧ n ≤ p + 1
      · rw [if_pos c2, if_pos (Or.inr c2)]
      · rw [if_neg c2, if_neg (fun z => z.elim c1 c2)]
  · obtain ⟨i, a1, a2, a3⟩ := (h3 j hj ej).2
    obtain ⟨b1, b2⟩ := k5.2 i a1
    exact ⟨i, Nat.lt_of_lt_of_le a1 k5.1, b1.trans a2, by rw [b2]; exact a3⟩
theorem mx_f64 {post : SX → Prop} {p s t m : Nat} {Q T : Nat → Nat} (W : pj_PG n mh O G) (hp : p < n) (hl : f_length = nI n) (hm : f_queued = nI m) (hQ : a_queue = pj_nF Q) (hT : a_queueSteps = pj_nF T) (hG : a_args = G)
    (P : pj_P s f_kindHeight a_kindStack a_kindLocals) (hs : s < 1089) (hk : pj_sk mh (O p) s = 0) (hDt : pj_D n mh O G t p s) (I : pj_Q n mh O G m Q T a_reached) (hb : ∀ j, j < m → T j ≤ t + 1) (he : t + 1 ≤ m)
    (H : ∀ kh ks kl f fy fb m' Q' T' R', pj_Ef p f f_faulty a_faultBits fy fb → (f = if pj_lv n (O p) p (G p) then 8 else 0) → (∀ q s', pj_St n mh O G p s q s' → ∃ i, i < m' ∧ Q' i = pj_xn q s' ∧ T' i ≤ t + 1) → pj_Q n mh O G m' Q' T' R' → pj_E m Q T m' Q' T' → (∀ i, i < m' → T' i ≤ t + 1) →
      post (f_maxHeight, f_pool, f_length, fy, nI m', kh, f_status, f_position, f_height, f_records, f_choices, f_forks, a_ops, a_args, fb, a_heightBits, a_kindBits, a_leastSteps, pj_nF Q', pj_nF T', R', ks, kl, a_stack, a_locals, a_fields)) : wX_follow_64 post (nI p) (nI (t + 1)) (nI (O p)) f_maxHeight f_pool f_length f_faulty f_queued f_kindHeight f_status f_position f_height f_records f_choices f_forks a_ops a_args a_faultBits a_heightBits a_kindBits a_leastSteps a_queue a_queueSteps a_reached a_kindStack a_kindLocals a_stack a_locals a_fields := by
  obtain ⟨hn, m1, m4, hO, hA⟩ := W
  have ho := hO p hp
  subst hG
  refine ⟨vp_in_nI (by omega) (by decide), ?_⟩
  rw [nI_clamp (by omega)]
  refine mx_changeKinds P hs ho m4 hk (hA p hp) (fun kh ks kl P' => ?_)
  have hs' := pj_ch_lt (z := decide (a_args p = 0)) hs m4 hk
  have hS : ∀ q, q < n → (((O p = 10 ∨ O p = 11) ∧ a_args p = nI q) ∨ (O p ≠ 10 ∧ O p ≠ 13 ∧ q = p + 1)) → pj_D n mh O a_args (t + 1) q (pj_ch (O p) (decide (a_args p = 0)) s) := fun q hq h => ⟨p, s, hDt, hq, hk, rfl, h⟩
  have hD1 : O p ≠ 10 → O p ≠ 13 → p + 1 < n → pj_D n mh O a_args (t + 1) (p + 1) (pj_ch (O p) (decide (a_args p = 0)) s) := fun h1 h2 h3 => hS _ h3 (Or.inr ⟨h1, h2, rfl⟩)
  have with87 : (O p = 10 ∨ O p = 11) → wX_follow_87 post (nI p) (nI (t + 1)) (nI (O p)) f_maxHeight f_pool f_length f_faulty f_queued (kh) f_status f_position f_height f_records f_choices f_forks a_ops a_args a_faultBits a_heightBits a_kindBits a_leastSteps a_queue a_queueSteps a_reached (ks) (kl) a_stack a_locals a_fields := fun h1011 => by
    refine mx_f87 hn hp ho hl hm hQ hT P' hs' I hb he hD1 (fun j hj ej => hS j hj (Or.inl ⟨h1011, ej⟩)) (fun f fy fb m' Q' T' R' h1 h2 h3 h4 h5 h6 h7 => H kh ks kl f fy fb m' Q' T' R' h1 ?_ (fun q s' hst => ?_) h5 h6 h7)
    · rw [h2]
      have e : pj_lv n (O p) p (a_args p) = decide ((a_args p < 0 ∨ nI n ≤ a_args p) ∨ (O p ≠ 10 ∧ O p ≠ 13 ∧ n ≤ p + 1)) := by
        unfold pj_lv
        exact decide_eq_decide.mpr ⟨fun h => h.elim (fun h => Or.inl h.2) Or.inr, fun h => h.elim (fun h => Or.inl ⟨h1011, h⟩) Or.inr⟩
      rw [e]
      by_cases c : (a_args p < 0 ∨ nI n ≤ a_args p) ∨ (O p ≠ 10 ∧ O p ≠ 13 ∧ n ≤ p + 1)
      · rw [if_pos c, decide_eq_true c]; rfl
      · rw [if_neg c, decide_eq_false c]; rfl
    · obtain ⟨s1, s2, rfl, (⟨_, s4⟩ | ⟨s4, s5, rfl⟩)⟩ := hst
      · exact h3 q s1 s4
      · exact h4 s4 s5 s1
  refine pk_eq (O p) 10 (fun h => with87 (Or.inl h)) (fun h10 => pk_eq (O p) 11 (fun h => with87 (Or.inr h)) (fun h11 => ?_))
  refine mx_f99 hn hp ho hl hm hQ hT P' hs' I hb he hD1 (fun f fy fb m' Q' T' R' h1 h2 h3 h4 h5 h6 => H kh ks kl f fy fb m' Q' T' R' h1 ?_ (fun q s' hst => ?_) h4 h5 h6)
  · rw [h2]
    have e : pj_lv n (O p) p (a_args p) = decide (O p ≠ 10 ∧ O p ≠ 13 ∧ n ≤ p + 1) := by
      unfold pj_lv
      exact decide_eq_decide.mpr ⟨fun h => h.elim (fun h => h.1.elim (fun z => absurd z h10) (fun z => absurd z h11)) id, Or.inr⟩
    rw [e]
    by_cases c : O p ≠ 10 ∧ O p ≠ 13 ∧ n ≤ p + 1
    · rw [if_pos c, decide_eq_true c]; rfl
    · rw [if_neg c, decide_eq_false c]; rfl
  · obtain ⟨s1, s2, rfl, (⟨s3, s4⟩ | ⟨s4, s5, rfl⟩)⟩ := hst
    · exact s3.elim (fun z => absurd z h10) (fun z => absurd z h11)
    · exact h3 s4 s5 s1
theorem mx_follow {post : SX → Prop} {p s t m : Nat} {Q T : Nat → Nat} (W : pj_PG n mh O G) (hp : p < n) (hmh : f_maxHeight = nI mh) (hl : f_length = nI n) (hm : f_queued = nI m) (hQ : a_queue = pj_nF Q) (hT : a_queueSteps = pj_nF T) (hO : a_ops = pj_nF O) (hG : a_args = G)
    (P : pj_P s f_kindHeight a_kindStack a_kindLocals) (hs : s < 1089) (hDt : pj_D n mh O G t p s) (I : pj_Q n mh O G m Q T a_reached) (hb : ∀ j, j < m → T j ≤ t + 1) (he : t + 1 ≤ m)
    (H : ∀ kh ks kl fy fb m' Q' T' R', pj_Ef p (pj_fl n mh (O p) p (G p) s) f_faulty a_faultBits fy fb → (∀ q s', pj_St n mh O G p s q s' → ∃ i, i < m' ∧ Q' i = pj_xn q s' ∧ T' i ≤ t + 1) → pj_Q n mh O G m' Q' T' R' → pj_E m Q T m' Q' T' → (∀ i, i < m' → T' i ≤ t + 1) →
      post (f_maxHeight, f_pool, f_length, fy, nI m', kh, f_status, f_position, f_height, f_records, f_choices, f_forks, a_ops, a_args, fb, a_heightBits, a_kindBits, a_leastSteps, pj_nF Q', pj_nF T', R', ks, kl, a_stack, a_locals, a_fields)) : wpX_follow post (f_maxHeight, f_pool, f_length, f_faulty, f_queued, f_kindHeight, f_status, f_position, f_height, f_records, f_choices, f_forks, a_ops, a_args, a_faultBits, a_heightBits, a_kindBits, a_leastSteps, a_queue, a_queueSteps, a_reached, a_kindStack, a_kindLocals, a_stack, a_locals, a_fields) (nI p) (nI (t + 1)) := by
  have ho := W.2.2.2.1 p hp
  have hn := W.1
  have hm4 := W.2.2.1
  have h4 := pj_hgle (s / 9)
  have e0 : a_ops (nI p).toNatClampNeg = nI (O p) := by rw [nI_clamp (by omega), hO]; rfl
  refine ⟨vp_in_nI (by omega) (by decide), nm_r e0 ?_⟩
  refine mx_cells ho ?_
  have bad : ∀ f, f ≠ 0 → pj_sk mh (O p) s = f → post (f_maxHeight, f_pool, f_length, 1, f_queued, f_kindHeight, f_status, f_position, f_height, f_records, f_choices, f_forks, a_ops, a_args, pj_or a_faultBits p (nI f), a_heightBits, a_kindBits, a_leastSteps, a_queue, a_queueSteps, a_reached, a_kindStack, a_kindLocals, a_stack, a_locals, a_fields) := fun f hf h => by
    subst hm hQ hT
    have e : pj_fl n mh (O p) p (G p) s = f := by unfold pj_fl; rw [if_pos (by rw [h]; exact hf), h]
    refine H _ _ _ 1 _ m Q T _ ?_ (fun q s' hst => absurd (hst.2.1.symm.trans h) (fun z => hf z.symm)) I (pj_Er _ _ _) hb
    rw [e]
    exact ⟨rfl, fun z => absurd z hf, fun _ => rfl⟩
  have f50 : pj_sk mh (O p) s = 0 → wX_follow_50 post (nI p) (nI (t + 1)) (nI (O p)) f_maxHeight f_pool f_length f_faulty f_queued f_kindHeight f_status f_position f_height f_records f_choices f_forks a_ops a_args a_faultBits a_heightBits a_kindBits a_leastSteps a_queue a_queueSteps a_reached a_kindStack a_kindLocals a_stack a_locals a_fields := fun hk => by
    have hnd := (pj_sk0 hk).1
    have e1 : pj_fl n mh (O p) p (G p) s = (if pj_kb (O p) (pj_tp (s / 9)) (pj_tp (pj_rs (s / 9))) then 4 else 0) + (if pj_lv n (O p) p (G p) then 8 else 0) := by unfold pj_fl; rw [if_neg (by omega)]
    refine mx_kindsFit P.1 (by omega) ho hnd (fun hkb => br_t rfl ?_) (fun hkb => br_f (by decide) ?_)
    · refine mx_noteFault (by omega) ?_
      refine mx_f64 W hp hl hm hQ hT hG P hs hk hDt I hb he (fun kh ks kl f fy fb m' Q' T' R' h1 h2 h3 h4 h5 h6 => H kh ks kl fy fb m' Q' T' R' ?_ h3 h4 h5 h6)
      have e2 : pj_fl n mh (O p) p (G p) s = 4 ||| f := by
        rw [e1, hkb, h2]
        by_cases c : pj_lv n (O p) p (G p) = true
        · rw [if_pos c]; rfl
        · rw [if_neg c]; rfl
      rw [e2]
      exact pj_Eft ⟨rfl, fun z => absurd z (by decide), fun _ => rfl⟩ h1
    · refine mx_f64 W hp hl hm hQ hT hG P hs hk hDt I hb he (fun kh ks kl f fy fb m' Q' T' R' h1 h2 h3 h4 h5 h6 => H kh ks kl fy fb m' Q' T' R' ?_ h3 h4 h5 h6)
      have e2 : pj_fl n mh (O p) p (G p) s = f := by
        rw [e1, hkb, h2]
        by_cases c : pj_lv n (O p) p (G p) = true
        · rw [if_pos c]; rfl
        · rw [if_neg c]; rfl
      rw [e2]
      exact h1
  have hnd2 : pj_nd (O p) ≤ 2 := by unfold pj_nd; (repeat' split) <;> omega
  refine pk_le (pj_nd (O p)) (pj_hg (s / 9)) (fun h1 => ?_) (fun h1 => ?_) rfl P.1.1
  · refine mx_room ho (fun c => br_f (by decide) ?_) (fun c => br_t rfl (f50 ?_))
    · refine pk_lt (pj_hg (s / 9)) mh (fun h2 => f50 ?_) (fun h2 => mx_noteFault (by omega) (bad 2 (by decide) ?_)) P.1.1 hmh
      · unfold pj_sk
        rw [if_neg (by omega), if_neg (fun z => by have := z.2; omega)]
      · unfold pj_sk
        rw [if_neg (by omega), if_pos ⟨c, h2⟩]
    · unfold pj_sk
      rw [if_neg (by omega), if_neg (fun z => c z.1)]
  · refine mx_noteFault (by omega) (bad 1 (by decide) ?_)
    unfold pj_sk
    rw [if_pos h1]
end
end
section
/-! the component's judge -/
def pj_XI (n mh : Nat) (O : Nat → Nat) (G : Nat → Int32) (x m : Nat) (Q T : Nat → Nat) (R : Nat → Int32) (fy : Int32) (fb hb kb ls : Nat → Int32) : Prop :=
  pj_Q n mh O G m Q T R ∧ x ≤ m ∧ (x < m → ∀ j, j < m → T j ≤ T x + 1) ∧
  (∀ i, i < x → ∀ q t, pj_St n mh O G (pj_yp (Q i)) (pj_ys (Q i)) q t → ∃ j, j < m ∧ Q j = pj_xn q t ∧ T j ≤ T i + 1) ∧
  (∃ j, j < m ∧ Q j = pj_xn 0 8 ∧ T j = 0) ∧
  (∀ p, p < 16 → ∀ b, b < 32 → (bt (fb p) b = true ↔ ∃ i, i < x ∧ pj_yp (Q i) = p ∧ bt (nI (pj_fl n mh (O p) p (G p) (pj_ys (Q i)))) b = true)) ∧
  (∀ p, p < 16 → ∀ b, b < 32 → (bt (hb p) b = true ↔ ∃ i, i < x ∧ pj_yp (Q i) = p ∧ pj_hg (pj_ys (Q i) / 9) = b)) ∧
  (∀ p h pl, p < 16 → h < 5 → pl < 6 → ∀ b, b < 32 → (bt (kb ((p * 5 + h) * 6 + pl)) b = true ↔ ∃ i, i < x ∧ pj_yp (Q i) = p ∧ pj_hg (pj_ys (Q i) / 9) = h ∧ pj_Kd (pj_ys (Q i)) h pl b)) ∧
  (∀ p, p < 16 → (ls p = -1 ∧ ∀ i, i < x → pj_yp (Q i) ≠ p) ∨ ∃ i, i < x ∧ pj_yp (Q i) = p ∧ ls p = nI (T i) ∧ ∀ j, j < x → pj_yp (Q j) = p → T i ≤ T j) ∧
  (fy = 0 ↔ ∀ i, i < x → pj_fl n mh (O (pj_yp (Q i))) (pj_yp (Q i)) (G (pj_yp (Q i))) (pj_ys (Q i)) = 0)
theorem pj_exs {x : Nat} {A A' : Nat → Prop} (h : ∀ i, i < x + 1 → (A' i ↔ A i)) : (∃ i, i < x + 1 ∧ A' i) ↔ (∃ i, i < x ∧ A i) ∨ A x := by
  constructor
  · rintro ⟨i, hi, ha⟩
    rcases Nat.lt_or_ge i x with h1 | h1
    · exact Or.inl ⟨i, h1, (h i hi).mp ha⟩
    · have e : i = x := by omega
      subst e
      exact Or.inr ((h i hi).mp ha)
  · rintro (⟨i, hi, ha⟩ | ha)
    · exact ⟨i, by omega, (h i (by omega)).mpr ha⟩
    · exact ⟨x, by omega, (h x (by omega)).mpr ha⟩
theorem pj_orB {f : Nat → Int32} {x0 x b : Nat} {y : Int32} : bt (pj_or f x0 y x) b = true ↔ bt (f x) b = true ∨ (x0 = x ∧ bt y b = true) := by
  unfold pj_or
  by_cases e : x = x0
  · subst e
    rw [pk_us, b_or, Bool.or_eq_true]
    exact ⟨fun h => h.elim Or.inl (fun h => Or.inr ⟨rfl, h⟩), fun h => h.elim Or.inl (fun h => Or.inr h.2)⟩
  · rw [pk_un e]
    exact ⟨Or.inl, fun h => h.elim id (fun h => absurd h.1.symm e)⟩
theorem pj_bt2 : ∀ h, h < 5 → ∀ b, b < 32 → bt (nI (2 ^ h)) b = decide (h = b) := by decide +kernel
theorem pj_XIs {n mh : Nat} {O : Nat → Nat} {G : Nat → Int32} {x m m' : Nat} {Q T Q' T' : Nat → Nat} {R R' : Nat → Int32} {fy fy' : Int32} {fb hb kb ls fb' kb' ls' : Nat → Int32} (I : pj_XI n mh O G x m Q T R fy fb hb kb ls) (hx : x < m)
    (hE : pj_Ef (pj_yp (Q x)) (pj_fl n mh (O (pj_yp (Q x))) (pj_yp (Q x)) (G (pj_yp (Q x))) (pj_ys (Q x))) fy fb fy' fb')
    (hK : ∀ z b, b < 32 → (bt (kb' z) b = true ↔ bt (kb z) b = true ∨ ∃ pl, pl < 6 ∧ z = (pj_yp (Q x) * 5 + pj_hg (pj_ys (Q x) / 9)) * 6 + pl ∧ pj_Kd (pj_ys (Q x)) (pj_hg (pj_ys (Q x) / 9)) pl b))
    (l1 : 0 ≤ ls (pj_yp (Q x)) → ls' = ls) (l2 : ¬ 0 ≤ ls (pj_yp (Q x)) → ls' = upd ls (pj_yp (Q x)) (nI (T x)))
    (hM : ∀ q s', pj_St n mh O G (pj_yp (Q x)) (pj_ys (Q x)) q s' → ∃ i, i < m' ∧ Q' i = pj_xn q s' ∧ T' i ≤ T x + 1) (hQ' : pj_Q n mh O G m' Q' T' R') (hEx : pj_E m Q T m' Q' T') (hbd : ∀ i, i < m' → T' i ≤ T x + 1) :
    pj_XI n mh O G (x + 1) m' Q' T' R' fy' fb' (pj_or hb (pj_yp (Q x)) (nI (2 ^ pj_hg (pj_ys (Q x) / 9)))) kb' ls' := by
  obtain ⟨i1, i2, i3, i4, i5, i6, i7, i8, i9, i10⟩ := I
  have eQ : ∀ i, i < x + 1 → Q' i = Q i := fun i hi => (hEx.2 i (by omega)).1
  have eT : ∀ i, i < x + 1 → T' i = T i := fun i hi => (hEx.2 i (by omega)).2
  have hm := hEx.1
  refine ⟨hQ', by omega, fun h j hj => ?_, fun i hi q t hst => ?_, ?_, fun p hp b hb32 => ?_, fun p hp b hb32 => ?_, fun p h pl hp hh hpl b hb32 => ?_, fun p hp => ?_, ?_⟩
  · have h1 := hbd j hj
    have h2 := hQ'.2.2.2 x (x + 1) (by omega) h
    rw [eT x (by omega)] at h2
    omega
  · rw [eQ i hi] at hst
    rw [eT i hi]
    rcases Nat.lt_or_ge i x with h1 | h1
    · obtain ⟨j, hj, e1, e2⟩ := i4 i h1 q t hst
      exact ⟨j, by omega, (hEx.2 j hj).1.trans e1, by rw [(hEx.2 j hj).2]; exact e2⟩
    · have e : i = x := by omega
      subst e
      exact hM q t hst
  · obtain ⟨j, hj, e1, e2⟩ := i5
    exact ⟨j, by omega, (hEx.2 j hj).1.trans e1, (hEx.2 j hj).2.trans e2⟩
  · rw [hE.1, pj_orB, i6 p hp b hb32]
    refine Iff.trans ?_ (pj_exs (A := fun i => pj_yp (Q i) = p ∧ bt (nI (pj_fl n mh (O p) p (G p) (pj_ys (Q i)))) b = true) (fun i hi => by rw [eQ i hi])).symm
    exact or_congr Iff.rfl ⟨fun ⟨a, c⟩ => ⟨a, by rw [← a]; exact c⟩, fun ⟨a, c⟩ => ⟨a, by rw [← a] at c; exact c⟩⟩
  · rw [pj_orB, i7 p hp b hb32, pj_bt2 _ (by have := pj_hgle (pj_ys (Q x) / 9); omega) b hb32, decide_eq_true_iff]
    exact (pj_exs (A := fun i => pj_yp (Q i) = p ∧ pj_hg (pj_ys (Q i) / 9) = b) (fun i hi => by rw [eQ i hi])).symm
  · rw [hK _ b hb32, i8 p h pl hp hh hpl b hb32]
    refine Iff.trans ?_ (pj_exs (A := fun i => pj_yp (Q i) = p ∧ pj_hg (pj_ys (Q i) / 9) = h ∧ pj_Kd (pj_ys (Q i)) h pl b) (fun i hi => by rw [eQ i hi])).symm
    have h4 := pj_hgle (pj_ys (Q x) / 9)
    refine or_congr Iff.rfl ⟨?_, ?_⟩
    · rintro ⟨pl', h1, h2, h3⟩
      have e1 : pj_yp (Q x) = p := by omega
      have e2 : pj_hg (pj_ys (Q x) / 9) = h := by omega
      have e3 : pl' = pl := by omega
      subst e3
      rw [e2] at h3
      exact ⟨e1, e2, h3⟩
    · rintro ⟨e1, e2, h3⟩
      exact ⟨pl, hpl, by rw [e1, e2], by rw [e2]; exact h3⟩
  · by_cases c : pj_yp (Q x) = p
    · subst c
      rcases i9 _ hp with ⟨a1, a2⟩ | ⟨i, a1, a2, a3, a4⟩
      · have hn0 : ¬ (0 : Int32) ≤ ls (pj_yp (Q x)) := by rw [a1]; decide
        rw [l2 hn0]
        refine Or.inr ⟨x, by omega, by rw [eQ x (by omega)], by rw [pk_us, eT x (by omega)], fun j hj ej => ?_⟩
        rw [eQ j hj] at ej
        rcases Nat.lt_or_ge j x with h1 | h1
        · exact absurd ej (a2 j h1)
        · have e : j = x := by omega
          subst e
          exact Nat.le_refl _
      · have hTi : T i < 2 ^ 31 := by have := (i1.1 i (by omega)).2.1; have := pj_Qm i1; omega
        have hn0 : (0 : Int32) ≤ ls (pj_yp (Q x)) := by rw [a3]; exact nI_pos' hTi
        rw [l1 hn0]
        refine Or.inr ⟨i, by omega, by rw [eQ i (by omega)]; exact a2, by rw [eT i (by omega)]; exact a3, fun j hj ej => ?_⟩
        rw [eQ j hj] at ej
        rw [eT i (by omega), eT j hj]
        rcases Nat.lt_or_ge j x with h1 | h1
        · exact a4 j h1 ej
        · exact i1.2.2.2 i j (by omega) (by omega)
    · have el : ls' p = ls p := by
        by_cases h0 : 0 ≤ ls (pj_yp (Q x))
        · rw [l1 h0]
        · rw [l2 h0, pk_un (fun z => c z.symm)]
      rw [el]
      rcases i9 p hp with ⟨a1, a2⟩ | ⟨i, a1, a2, a3, a4⟩
      · refine Or.inl ⟨a1, fun i hi => ?_⟩
        rw [eQ i hi]
        rcases Nat.lt_or_ge i x with h1 | h1
        · exact a2 i h1
        · have e : i = x := by omega
          subst e
          exact c
      · refine Or.inr ⟨i, by omega, by rw [eQ i (by omega)]; exact a2, by rw [eT i (by omega)]; exact a3, fun j hj ej => ?_⟩
        rw [eQ j hj] at ej
        rw [eT i (by omega), eT j hj]
        rcases Nat.lt_or_ge j x with h1 | h1
        · exact a4 j h1 ej
        · have e : j = x := by omega
          subst e
          exact absurd ej c
  · constructor
    · intro h i hi
      rw [eQ i hi]
      have f0 : pj_fl n mh (O (pj_yp (Q x))) (pj_yp (Q x)) (G (pj_yp (Q x))) (pj_ys (Q x)) = 0 := by
        refine Classical.byContradiction (fun z => ?_)
        rw [hE.2.2 z] at h
        exact absurd h (by decide)
      rcases Nat.lt_or_ge i x with h1 | h1
      · rw [hE.2.1 f0] at h
        exact i10.mp h i h1
      · have e : i = x := by omega
        subst e
        exact f0
    · intro h
      have hx0 := h x (by omega)
      rw [eQ x (by omega)] at hx0
      rw [hE.2.1 hx0]
      refine i10.mpr (fun i hi => ?_)
      have := h i (by omega)
      rw [eQ i (by omega)] at this
      exact this
/-- what the component's checker has found of a program -/
def pj_CX (n mh : Nat) (O : Nat → Nat) (G : Nat → Int32) (fy : Int32) (fb hb kb ls : Nat → Int32) : Prop :=
  (∀ p, p < 16 → ∀ b, b < 32 → (bt (fb p) b = true ↔ ∃ s, pj_Rc n mh O G p s ∧ bt (nI (pj_fl n mh (O p) p (G p) s)) b = true)) ∧
  (∀ p, p < 16 → ∀ b, b < 32 → (bt (hb p) b = true ↔ ∃ s, pj_Rc n mh O G p s ∧ pj_hg (s / 9) = b)) ∧
  (∀ p h pl, p < 16 → h < 5 → pl < 6 → ∀ b, b < 32 → (bt (kb ((p * 5 + h) * 6 + pl)) b = true ↔ ∃ s, pj_Rc n mh O G p s ∧ pj_hg (s / 9) = h ∧ pj_Kd s h pl b)) ∧
  (∀ p, p < 16 → pj_DS n mh O G p (ls p)) ∧
  (fy = 0 ↔ ∀ p s, pj_Rc n mh O G p s → pj_fl n mh (O p) p (G p) s = 0)
theorem pj_XIe {n mh : Nat} {O : Nat → Nat} {G : Nat → Int32} {m : Nat} {Q T : Nat → Nat} {R : Nat → Int32} {fy : Int32} {fb hb kb ls : Nat → Int32} (W : pj_PG n mh O G) (I : pj_XI n mh O G m m Q T R fy fb hb kb ls) : pj_CX n mh O G fy fb hb kb ls := by
  obtain ⟨i1, i2, i3, i4, i5, i6, i7, i8, i9, i10⟩ := I
  have fw : ∀ k p s, pj_D n mh O G k p s → ∃ j, j < m ∧ Q j = pj_xn p s ∧ T j ≤ k := by
    intro k
    induction k with
    | zero =>
      intro p s h
      obtain ⟨_, rfl, rfl⟩ := h
      obtain ⟨j, hj, e1, e2⟩ := i5
      exact ⟨j, hj, e1, by omega⟩
    | succ k ih =>
      intro p s h
      obtain ⟨p', s', h1, h2⟩ := h
      obtain ⟨j, hj, e1, e2⟩ := ih p' s' h1
      have hs' := (pj_Dlt W k p' s' h1).2
      have h3 := i4 j hj p s (by rw [e1, pj_ypx hs', pj_ysx hs']; exact h2)
      obtain ⟨j', hj', e3, e4⟩ := h3
      exact ⟨j', hj', e3, by omega⟩
  have bw : ∀ j, j < m → pj_Rc n mh O G (pj_yp (Q j)) (pj_ys (Q j)) := fun j hj => ⟨_, (i1.1 j hj).2.2.1⟩
  have fwR : ∀ p s, pj_Rc n mh O G p s → ∃ j, j < m ∧ pj_yp (Q j) = p ∧ pj_ys (Q j) = s := fun p s ⟨k, hk⟩ => by
    obtain ⟨j, hj, e1, _⟩ := fw k p s hk
    have hs' := (pj_Dlt W k p s hk).2
    exact ⟨j, hj, by rw [e1, pj_ypx hs'], by rw [e1, pj_ysx hs']⟩
  refine ⟨fun p hp b hb => ?_, fun p hp b hb => ?_, fun p h pl hp hh hpl b hb => ?_, fun p hp => ?_, ?_⟩
  · rw [i6 p hp b hb]
    constructor
    · rintro ⟨i, hi, rfl, h⟩
      exact ⟨_, bw i hi, h⟩
    · rintro ⟨s, hs, h⟩
      obtain ⟨j, hj, e1, e2⟩ := fwR p s hs
      exact ⟨j, hj, e1, by rw [e2]; exact h⟩
  · rw [i7 p hp b hb]
    constructor
    · rintro ⟨i, hi, rfl, h⟩
      exact ⟨_, bw i hi, h⟩
    · rintro ⟨s, hs, h⟩
      obtain ⟨j, hj, e1, e2⟩ := fwR p s hs
      exact ⟨j, hj, e1, by rw [e2]; exact h⟩
  · rw [i8 p h pl hp hh hpl b hb]
    constructor
    · rintro ⟨i, hi, rfl, h1, h2⟩
      exact ⟨_, bw i hi, h1, h2⟩
    · rintro ⟨s, hs, h1, h2⟩
      obtain ⟨j, hj, e1, e2⟩ := fwR p s hs
      exact ⟨j, hj, e1, by rw [e2]; exact h1, by rw [e2]; exact h2⟩
  · rcases i9 p hp with ⟨a1, a2⟩ | ⟨i, a1, a2, a3, a4⟩
    · refine Or.inl ⟨a1, fun k s hk => ?_⟩
      obtain ⟨j, hj, e1, _⟩ := fwR p s ⟨k, hk⟩
      exact a2 j hj e1
    · refine Or.inr ⟨T i, a3, ⟨pj_ys (Q i), by have := (i1.1 i a1).2.2.1; rw [a2] at this; exact this⟩, fun k' s hk' => ?_⟩
      obtain ⟨j, hj, e1, e2⟩ := fw k' p s hk'
      have hs' := (pj_Dlt W k' p s hk').2
      have := a4 j hj (by rw [e1, pj_ypx hs'])
      omega
  · rw [i10]
    constructor
    · intro h p s hs
      obtain ⟨j, hj, e1, e2⟩ := fwR p s hs
      have := h j hj
      rw [e1, e2] at this
      exact this
    · intro h i hi
      exact h _ _ (bw i hi)
def pj_SQ (fq : Int32) (aq aqs ar : Nat → Int32) : Prop := ∃ m Q T, fq = nI m ∧ aq = pj_nF Q ∧ aqs = pj_nF T ∧ m ≤ 17424 ∧ (∀ j, j < m → Q j < 17424) ∧ (∀ N, N < 17424 → ar N ≠ 0 → ∃ j, j < m ∧ Q j = N)
section
variable {f_maxHeight f_pool f_length f_faulty f_queued f_kindHeight f_status f_position f_height f_records f_choices f_forks : Int32} {a_ops a_args a_faultBits a_heightBits a_kindBits a_leastSteps a_queue a_queueSteps a_reached a_kindStack a_kindLocals a_stack a_locals a_fields : Nat → Int32} {n mh : Nat} {O : Nat → Nat} {G : Nat → Int32}
theorem mx_fg75 {post : SX → Prop} (H : ∀ kb, (∀ x, x < 480 → kb x = 0) → post (f_maxHeight, f_pool, f_length, f_faulty, f_queued, f_kindHeight, f_status, f_position, f_height, f_records, f_choices, f_forks, a_ops, a_args, a_faultBits, a_heightBits, kb, a_leastSteps, a_queue, a_queueSteps, a_reached, a_kindStack, a_kindLocals, a_stack, a_locals, a_fields)) :
    ∀ d i kb, i + d = 480 → (∀ x, x < i → kb x = 0) → wX_forgetJudgement_75 post f_maxHeight f_pool f_length f_faulty f_queued f_kindHeight f_status f_position f_height f_records f_choices f_forks (d + 1) (nI i) a_ops a_args a_faultBits a_heightBits (kb) a_leastSteps a_queue a_queueSteps a_reached a_kindStack a_kindLocals a_stack a_locals a_fields := by
  intro d
  induction d with
  | zero =>
    intro i kb hi hk
    have e : i = 480 := by omega
    subst e
    exact br_t (by decide) (H kb hk)
  | succ d ih =>
    intro i kb hi hk
    refine br_f (nI_ge (b := 480) (by omega) (by decide)) ⟨vp_in_nI (by omega) (by decide), nm_e (nm_r (nI_1 i) ?_)⟩
    rw [nI_clamp (by omega)]
    refine ih (i + 1) _ (by omega) (fun x hx => ?_)
    by_cases e : x = i
    · subst e; rw [pk_us]
    · rw [pk_un e]; exact hk x (by omega)
theorem mx_fg40 {post : SX → Prop} (H : ∀ fb hb ls kb, (∀ p, p < 16 → fb p = 0 ∧ hb p = 0 ∧ ls p = -1) → (∀ x, x < 480 → kb x = 0) → post (f_maxHeight, f_pool, f_length, f_faulty, f_queued, f_kindHeight, f_status, f_position, f_height, f_records, f_choices, f_forks, a_ops, a_args, fb, hb, kb, ls, a_queue, a_queueSteps, a_reached, a_kindStack, a_kindLocals, a_stack, a_locals, a_fields)) :
    ∀ d i fb hb ls, i + d = 16 → (∀ p, p < i → fb p = 0 ∧ hb p = 0 ∧ ls p = -1) → wX_forgetJudgement_40 post f_maxHeight f_pool f_length f_faulty f_queued f_kindHeight f_status f_position f_height f_records f_choices f_forks (d + 1) (nI i) a_ops a_args (fb) (hb) a_kindBits (ls) a_queue a_queueSteps a_reached a_kindStack a_kindLocals a_stack a_locals a_fields := by
  intro d
  induction d with
  | zero =>
    intro i fb hb ls hi hk
    have e : i = 16 := by omega
    subst e
    exact br_t (by decide) ⟨481, mx_fg75 (fun kb h => H fb hb ls kb hk h) 480 0 _ (by omega) (fun x hx => by omega)⟩
  | succ d ih =>
    intro i fb hb ls hi hk
    have hin := vp_in_nI (n := i) (N := 16) (by omega) (by decide)
    refine br_f (nI_ge (b := 16) (by omega) (by decide)) ⟨hin, nm_e ⟨hin, nm_e ⟨hin, nm_e (nm_r (nI_1 i) ?_)⟩⟩⟩
    rw [nI_clamp (by omega)]
    refine ih (i + 1) _ _ _ (by omega) (fun x hx => ?_)
    by_cases e : x = i
    · subst e; rw [pk_us, pk_us, pk_us]; exact ⟨rfl, rfl, rfl⟩
    · rw [pk_un e, pk_un e, pk_un e]; exact hk x (by omega)
theorem mx_fg2 {post : SX → Prop} {m : Nat} {Q : Nat → Nat} (hm : f_queued = nI m) (hm2 : m ≤ 17424) (hQ : a_queue = pj_nF Q) (hq : ∀ j, j < m → Q j < 17424)
    (H : ∀ fb hb ls kb R, (∀ p, p < 16 → fb p = 0 ∧ hb p = 0 ∧ ls p = -1) → (∀ x, x < 480 → kb x = 0) → (∀ N, N < 17424 → R N = 0) → post (f_maxHeight, f_pool, f_length, 0, 0, f_kindHeight, f_status, f_position, f_height, f_records, f_choices, f_forks, a_ops, a_args, fb, hb, kb, ls, a_queue, a_queueSteps, R, a_kindStack, a_kindLocals, a_stack, a_locals, a_fields)) :
    ∀ d i R, i + d = m → (∀ N, N < 17424 → R N ≠ 0 → ∃ j, i ≤ j ∧ j < m ∧ Q j = N) → wX_forgetJudgement_2 post f_maxHeight f_pool f_length f_faulty f_queued f_kindHeight f_status f_position f_height f_records f_choices f_forks (d + 1) (nI i) a_ops a_args a_faultBits a_heightBits a_kindBits a_leastSteps a_queue a_queueSteps (R) a_kindStack a_kindLocals a_stack a_locals a_fields := by
  subst hm hQ
  intro d
  induction d with
  | zero =>
    intro i R hi hR
    have hR0 : ∀ N, N < 17424 → R N = 0 := fun N hN => Classical.byContradiction (fun z => by
      obtain ⟨j, h1, h2, _⟩ := hR N hN z
      omega)
    refine br_t (nI_le (by omega) (by omega)) ⟨17, mx_fg40 (fun fb hb ls kb h1 h2 => H fb hb ls kb R h1 h2 hR0) 16 0 _ _ _ (by omega) (fun x hx => by omega)⟩
  | succ d ih =>
    intro i R hi hR
    have hQi := hq i (by omega)
    refine br_f (nI_ge (by omega) (by omega)) ⟨vp_in_nI (by omega) (by decide), ?_⟩
    have e0 : pj_nF Q (nI i).toNatClampNeg = nI (Q i) := by rw [nI_clamp (by omega)]; rfl
    rw [e0]
    refine ⟨vp_in_nI hQi (by decide), nm_e (nm_r (nI_1 i) ?_)⟩
    rw [nI_clamp (by omega)]
    refine ih (i + 1) _ (by omega) (fun N hN h => ?_)
    by_cases e : N = Q i
    · subst e
      rw [pk_us] at h
      exact absurd pj_nb0 h
    · rw [pk_un e] at h
      obtain ⟨j, h1, h2, h3⟩ := hR N hN h
      refine ⟨j, ?_, h2, h3⟩
      by_cases ej : j = i
      · subst ej
        exact absurd h3.symm e
      · omega
theorem mx_forget {post : SX → Prop} (S : pj_SQ f_queued a_queue a_queueSteps a_reached)
    (H : ∀ fb hb ls kb R, (∀ p, p < 16 → fb p = 0 ∧ hb p = 0 ∧ ls p = -1) → (∀ x, x < 480 → kb x = 0) → (∀ N, N < 17424 → R N = 0) → post (f_maxHeight, f_pool, f_length, 0, 0, f_kindHeight, f_status, f_position, f_height, f_records, f_choices, f_forks, a_ops, a_args, fb, hb, kb, ls, a_queue, a_queueSteps, R, a_kindStack, a_kindLocals, a_stack, a_locals, a_fields)) : wpX_forgetJudgement post (f_maxHeight, f_pool, f_length, f_faulty, f_queued, f_kindHeight, f_status, f_position, f_height, f_records, f_choices, f_forks, a_ops, a_args, a_faultBits, a_heightBits, a_kindBits, a_leastSteps, a_queue, a_queueSteps, a_reached, a_kindStack, a_kindLocals, a_stack, a_locals, a_fields) := by
  obtain ⟨m, Q, T, hm, hQ, _, hm2, hq, hR⟩ := S
  exact ⟨m + 1, mx_fg2 hm hm2 hQ hq H m 0 a_reached (by omega) (fun N hN h => by
    obtain ⟨j, h1, h2⟩ := hR N hN h
    exact ⟨j, by omega, h1, h2⟩)⟩
theorem mx_judgeL {post : SX → Prop} (W : pj_PG n mh O G) (hmh : f_maxHeight = nI mh) (hl : f_length = nI n) (hO : a_ops = pj_nF O) (hG : a_args = G)
    (H : ∀ fy m kh fb hb kb ls Q T R ks kl, pj_XI n mh O G m m Q T R fy fb hb kb ls → post (f_maxHeight, f_pool, f_length, fy, nI m, kh, f_status, f_position, f_height, f_records, f_choices, f_forks, a_ops, a_args, fb, hb, kb, ls, pj_nF Q, pj_nF T, R, ks, kl, a_stack, a_locals, a_fields)) :
    ∀ d x fy m kh fb hb kb ls Q T R ks kl, x + d = 17424 → pj_XI n mh O G x m Q T R fy fb hb kb ls →
      wX_judge_32 post (d + 1) (nI x) f_maxHeight f_pool f_length (fy) (nI m) (kh) f_status f_position f_height f_records f_choices f_forks a_ops a_args (fb) (hb) (kb) (ls) (pj_nF Q) (pj_nF T) (R) (ks) (kl) a_stack a_locals a_fields := by
  intro d
  induction d with
  | zero =>
    intro x fy m kh fb hb kb ls Q T R ks kl hx I
    have hm := pj_Qm I.1
    have h2 := I.2.1
    have e : x = m := by omega
    subst e
    exact br_t (nI_le (Nat.le_refl _) (by omega)) (H _ _ _ _ _ _ _ _ _ _ _ _ I)
  | succ d ih =>
    intro x fy m kh fb hb kb ls Q T R ks kl hx I
    have hm := pj_Qm I.1
    have h2 := I.2.1
    by_cases hxm : x = m
    · subst hxm
      exact br_t (nI_le (Nat.le_refl _) (by omega)) (H _ _ _ _ _ _ _ _ _ _ _ _ I)
    · have hlt : x < m := by omega
      obtain ⟨q1, q2, q3, q4⟩ := I.1.1 x hlt
      have hyp := (pj_Dlt W _ _ _ q3).1
      have hys := (pj_Dlt W _ _ _ q3).2
      have hn := W.1
      have hin := vp_in_nI (n := x) (N := 17424) (by omega) (by decide)
      refine br_f (nI_ge hlt (by omega)) (br_f (nI_ge (b := 17424) (by omega) (by decide)) ⟨hin, ?_⟩)
      have e0 : pj_nF Q (nI x).toNatClampNeg = nI (pj_xn (pj_yp (Q x)) (pj_ys (Q x))) := by rw [nI_clamp (by omega), pj_xny]; rfl
      have e1 : pj_nF T (nI x).toNatClampNeg = nI (T x) := by rw [nI_clamp (by omega)]; rfl
      rw [e0]
      refine mx_take (by omega) hys (fun kh ks kl P => ⟨hin, ?_⟩)
      rw [e1]
      refine mx_note (by omega) P hys (fun kb' ls' hK l1 l2 => ⟨hin, ?_⟩)
      rw [e1, nI_1 (T x)]
      refine mx_follow W hyp hmh hl rfl rfl rfl hO hG P hys q3 I.1 (I.2.2.1 hlt) (by omega) (fun kh ks kl fy' fb' m' Q' T' R' hE hM hQ' hEx hb' => nm_r (nI_1 x) ?_)
      exact ih (x + 1) fy' m' kh fb' _ kb' ls' Q' T' R' ks kl (by omega) (pj_XIs I hlt hE hK l1 l2 hM hQ' hEx hb')
theorem mx_judge {post : SX → Prop} (W : pj_PG n mh O G) (hn0 : 0 < n) (hmh : f_maxHeight = nI mh) (hl : f_length = nI n) (hO : a_ops = pj_nF O) (hG : a_args = G) (S : pj_SQ f_queued a_queue a_queueSteps a_reached)
    (H : ∀ fy fq kh fb hb kb ls aq aqs R ks kl, pj_SQ fq aq aqs R → pj_CX n mh O G fy fb hb kb ls → post (f_maxHeight, f_pool, f_length, fy, fq, kh, f_status, f_position, f_height, f_records, f_choices, f_forks, a_ops, a_args, fb, hb, kb, ls, aq, aqs, R, ks, kl, a_stack, a_locals, a_fields)) : wpX_judge post (f_maxHeight, f_pool, f_length, f_faulty, f_queued, f_kindHeight, f_status, f_position, f_height, f_records, f_choices, f_forks, a_ops, a_args, a_faultBits, a_heightBits, a_kindBits, a_leastSteps, a_queue, a_queueSteps, a_reached, a_kindStack, a_kindLocals, a_stack, a_locals, a_fields) := by
  have hn := W.1
  unfold wpX_judge
  refine mx_forget S (fun fb hb ls kb R h1 h2 h3 => nm_e (nm_e ?_))
  obtain ⟨m, Q, T, hm, hQ, hT, _⟩ := S
  refine mx_reach (n := n) (mh := mh) (O := O) (G := G) (p := 0) (s := 8) (e := 0) (m := 0) (Q := Q) (T := T) (q := 0) hn (by omega) hl rfl hQ hT ⟨⟨rfl, fun i hi => absurd hi (by decide +revert)⟩, by rfl, by rfl⟩ (by omega) ⟨fun j hj => by omega, fun N hN h => absurd (h3 N hN) h, by omega, fun i j _ hj => by omega⟩ (fun j hj => by omega) (by omega) (fun j hj ej => ?_) (fun f fy fb' m' Q' T' R' k1 k2 k3 k4 k5 k6 => ⟨17425, ?_⟩)
  · have e : (0 : Nat) = j := (nI_eq (by omega) (by omega)).mp ej
    subst e
    exact ⟨hn0, rfl, rfl⟩
  · obtain ⟨f0, i, hi, ei1, ei2⟩ := k3 0 hn0 rfl
    subst f0
    have ef : fb' = fb := by rw [k1.1, pj_or0]
    have ey : fy = 0 := k1.2.1 rfl
    refine mx_judgeL W hmh hl hO hG (fun fy m kh fb hb kb ls Q T R ks kl I => ?_) 17424 0 fy m' _ fb' hb kb ls Q' T' R' _ _ (by omega) ?_
    · refine H _ _ _ _ _ _ _ _ _ _ _ _ ⟨m, Q, T, rfl, rfl, rfl, pj_Qm I.1, fun j hj => (I.1.1 j hj).1, I.1.2.1⟩ (pj_XIe W I)
    · have no : ∀ b, ¬ bt 0 b = true := fun b h => by rw [b_0] at h; exact absurd h (by decide)
      refine ⟨k4, by omega, fun _ j hj => by have := k6 j hj; omega, fun i hi => by omega, ⟨i, hi, ei1, by omega⟩, fun p hp b hb => ?_, fun p hp b hb => ?_, fun p h pl hp hh hpl b hb => ?_, fun p hp => Or.inl ⟨(h1 p hp).2.2, fun i hi => by omega⟩, ?_⟩
      · rw [ef, (h1 p hp).1]
        exact ⟨fun h => absurd h (no b), fun ⟨i, hi, _⟩ => by omega⟩
      · rw [(h1 p hp).2.1]
        exact ⟨fun h => absurd h (no b), fun ⟨i, hi, _⟩ => by omega⟩
      · rw [h2 _ (by omega)]
        exact ⟨fun h => absurd h (no b), fun ⟨i, hi, _⟩ => by omega⟩
      · exact ⟨fun _ i hi => by omega, fun _ => ey⟩
end
end
section
/-! the reference's checker, method by method -/
theorem pj_bt1 : ∀ j, j < 16 → ∀ b, b < 32 → bt ((1 : Int32) <<< (nI j &&& 31)) b = decide (j = b) := by decide +kernel
theorem pj_b1 : ∀ i, i < 32 → bt 1 i = decide (i = 0) := by decide +kernel
theorem pj_bit (x : Int32) {j : Nat} (hj : j < 32) : (x >>> (nI j &&& 31)) &&& 1 = 1 ↔ bt x j = true := by
  have e : bt (x >>> (nI j &&& 31)) 0 = bt x j := by rw [b_sshr j hj x (by omega), if_pos (by omega)]; rfl
  constructor
  · intro h
    have h1 : bt ((x >>> (nI j &&& 31)) &&& 1) 0 = bt 1 0 := by rw [h]
    rw [b_and, e, pj_b1 0 (by omega)] at h1
    simpa using h1
  · intro h
    apply b_ext
    intro i hi
    rw [b_and, pj_b1 i hi]
    by_cases c : i = 0
    · subst c
      rw [e, h]
      rfl
    · rw [decide_eq_false c, Bool.and_false]
theorem pj_n1 : (1 : Int32) = nI 1 := rfl
theorem pj_n2 : (2 : Int32) = nI 2 := rfl
theorem pj_n3 : (3 : Int32) = nI 3 := rfl
theorem pj_n9 : (9 : Int32) = nI 9 := rfl
section
variable {g_greatest g_poolSize g_count g_doing g_pc g_tall g_made g_forks g_bits : Int32} {d_ops d_args d_reached d_fresh d_coming d_dist d_stack d_locals d_fields : Nat → Int32} {n mh : Nat} {O : Nat → Nat} {G : Nat → Int32}
theorem my_heightOf {post : Int32 → Prop} {v : Nat} (hv : v < 2 ^ 31) (H : post (nI (pj_hg v))) : wpY_heightOf post (g_greatest, g_poolSize, g_count, g_doing, g_pc, g_tall, g_made, g_forks, g_bits, d_ops, d_args, d_reached, d_fresh, d_coming, d_dist, d_stack, d_locals, d_fields) (nI v) := by
  have key : ∀ h, pj_hg v = h → post (nI h) := fun h e => by rw [← e]; exact H
  exact pk_le 1 v (fun h1 => pk_le 4 v (fun h4 => pk_le 13 v (fun h13 => pk_le 40 v
    (fun h40 => key 4 (by unfold pj_hg; (repeat' split) <;> omega)) (fun h40 => key 3 (by unfold pj_hg; (repeat' split) <;> omega)))
    (fun h13 => key 2 (by unfold pj_hg; (repeat' split) <;> omega))) (fun h4 => key 1 (by unfold pj_hg; (repeat' split) <;> omega))) (fun h1 => key 0 (by unfold pj_hg; (repeat' split) <;> omega))
theorem my_need {post : Int32 → Prop} {o : Nat} (ho : o ≤ 13) (H : post (nI (pj_nd o))) : wpY_need post (g_greatest, g_poolSize, g_count, g_doing, g_pc, g_tall, g_made, g_forks, g_bits, d_ops, d_args, d_reached, d_fresh, d_coming, d_dist, d_stack, d_locals, d_fields) (nI o) := by
  unfold wpY_need
  rcases pj_o14 ho with rfl | rfl | rfl | rfl | rfl | rfl | rfl | rfl | rfl | rfl | rfl | rfl | rfl | rfl <;> (dsimp only; (repeat (first | refine br_t (by decide) ?_ | refine br_f (by decide) ?_)); exact H)
theorem my_stuck {post : Int32 → Prop} {p s : Nat} (hp : p < 16) (hs : s < 1089) (hO : d_ops = pj_nF O) (ho : O p ≤ 13) (hmh : g_greatest = nI mh) (hm : mh ≤ 4) (H : post (nI (pj_sk mh (O p) s))) : wpY_stuck post (g_greatest, g_poolSize, g_count, g_doing, g_pc, g_tall, g_made, g_forks, g_bits, d_ops, d_args, d_reached, d_fresh, d_coming, d_dist, d_stack, d_locals, d_fields) (nI s) (nI p) := by
  have e0 : d_ops (nI p).toNatClampNeg = nI (O p) := by rw [nI_clamp (by omega), hO]; rfl
  have e9 : nI s / 9 = nI (s / 9) := by rw [pj_n9, pk_div (by omega) (by omega) (by omega)]
  have h4 := pj_hgle (s / 9)
  have hnd2 : pj_nd (O p) ≤ 2 := by unfold pj_nd; (repeat' split) <;> omega
  refine ⟨vp_in_nI hp (by decide), nm_r e0 ⟨by decide, ?_⟩⟩
  rw [e9]
  refine my_heightOf (by omega) (my_need ho ?_)
  have key : ∀ h, pj_sk mh (O p) s = h → post (nI h) := fun h e => by rw [← e]; exact H
  clear H
  refine pk_le (pj_nd (O p)) (pj_hg (s / 9)) (fun h1 => ?_) (fun h1 => key 1 (by unfold pj_sk; rw [if_pos h1]))
  have grow : (O p = 0 ∨ O p = 1 ∨ O p = 3 ∨ O p = 8) → (nI (pj_hg (s / 9)) < g_greatest → post 0) ∧ (¬ nI (pj_hg (s / 9)) < g_greatest → post 2) := fun c => by
    refine pk_lt (pj_hg (s / 9)) mh (fun h2 => key 0 ?_) (fun h2 => key 2 ?_) rfl hmh
    · unfold pj_sk
      rw [if_neg (by omega), if_neg (fun z => by have := z.2; omega)]
    · unfold pj_sk
      rw [if_neg (by omega), if_pos ⟨c, h2⟩]
  have nogrow : ¬ (O p = 0 ∨ O p = 1 ∨ O p = 3 ∨ O p = 8) → post 0 := fun c => by
    refine key 0 ?_
    unfold pj_sk
    rw [if_neg (by omega), if_neg (fun z => c z.1)]
  generalize O p = o at *
  rcases pj_o14 ho with rfl | rfl | rfl | rfl | rfl | rfl | rfl | rfl | rfl | rfl | rfl | rfl | rfl | rfl <;> ((repeat (first | refine br_t (by decide) ?_ | refine br_f (by decide) ?_)); first | exact grow (by decide) | exact nogrow (by decide))
theorem my_c313 {post : Int32 → Prop} {v a b : Nat} {x4 x5 x6 : Int32} (h4 : x4 = nI v) (h5 : x5 = nI a) (h6 : x6 = nI b) (H : post (nI (v * 9 + a * 3 + b))) : wY_changed_313 post x4 x5 x6 g_greatest g_poolSize g_count g_doing g_pc g_tall g_made g_forks g_bits d_ops d_args d_reached d_fresh d_coming d_dist d_stack d_locals d_fields := by
  subst h4 h5 h6
  show post (((nI v * 9) + (nI a * 3)) + nI b)
  rw [pj_n9, pj_n3, pk_mul, pk_mul, nI_add, nI_add]
  exact H
theorem my_c91 {post : Int32 → Prop} {p o v a b t r t2 r2 : Nat} (hp : p < 16) (ho : o ≤ 13) (ht : t = pj_tp v) (hr : r = pj_rs v) (ht2 : t2 = pj_tp (pj_rs v)) (hr2 : r2 = pj_rs (pj_rs v))
    (H : post (nI (pj_chv o (decide (d_args p = 0)) v a b * 9 + pj_cha o (decide (d_args p = 0)) v a * 3 + pj_chb o (decide (d_args p = 0)) v b))) : wY_changed_91 post (nI p) (nI o) (nI v) (nI a) (nI b) (nI t) (nI r) (nI t2) (nI r2) g_greatest g_poolSize g_count g_doing g_pc g_tall g_made g_forks g_bits d_ops d_args d_reached d_fresh d_coming d_dist d_stack d_locals d_fields := by
  subst ht hr ht2 hr2
  have hin := vp_in_nI (n := p) (N := 16) hp (by decide)
  have ep : (nI p).toNatClampNeg = p := nI_clamp (by omega)
  unfold wY_changed_91
  rcases pj_o14 ho with rfl | rfl | rfl | rfl | rfl | rfl | rfl | rfl | rfl | rfl | rfl | rfl | rfl | rfl
  · (repeat (first | refine br_t (by decide) ?_ | refine br_f (by decide) ?_))
    exact nm_e (my_c313 (v := v * 3 + 1) (by rw [pj_n3, pk_mul, nI_1]) rfl rfl H)
  · (repeat (first | refine br_t (by decide) ?_ | refine br_f (by decide) ?_))
    exact nm_e (my_c313 (v := v * 3 + 2) (by rw [pj_n3, pk_mul, pj_n2, nI_add]) rfl rfl H)
  · (repeat (first | refine br_t (by decide) ?_ | refine br_f (by decide) ?_))
    exact my_c313 rfl rfl rfl H
  · (repeat (first | refine br_t (by decide) ?_ | refine br_f (by decide) ?_))
    exact nm_e (my_c313 (v := v * 3 + pj_tp v + 1) (by rw [pj_n3, pk_mul, nI_add, nI_1]) rfl rfl H)
  · (repeat (first | refine br_t (by decide) ?_ | refine br_f (by decide) ?_))
    exact nm_e (my_c313 (v := (pj_rs (pj_rs v) * 3 + pj_tp v + 1) * 3 + pj_tp (pj_rs v) + 1) (by rw [pj_n3, pk_mul, nI_add, nI_1, pk_mul, nI_add, nI_1]) rfl rfl H)
  · (repeat (first | refine br_t (by decide) ?_ | refine br_f (by decide) ?_))
    exact nm_e (my_c313 (v := pj_rs (pj_rs v) * 3 + 1) (by rw [pj_n3, pk_mul, nI_1]) rfl rfl H)
  · (repeat (first | refine br_t (by decide) ?_ | refine br_f (by decide) ?_))
    exact nm_e (my_c313 (v := pj_rs v * 3 + 1) (by rw [pj_n3, pk_mul, nI_1]) rfl rfl H)
  · (repeat (first | refine br_t (by decide) ?_ | refine br_f (by decide) ?_))
    exact my_c313 rfl rfl rfl H
  · (repeat (first | refine br_t (by decide) ?_ | refine br_f (by decide) ?_))
    refine ⟨hin, ?_⟩
    rw [ep]
    by_cases c : d_args p = 0
    · rw [decide_eq_true c] at H
      exact br_t c (nm_e (my_c313 (v := v * 3 + a + 1) (by rw [pj_n3, pk_mul, nI_add, nI_1]) rfl rfl H))
    · rw [decide_eq_false c] at H
      exact br_f c (nm_e (my_c313 (v := v * 3 + b + 1) (by rw [pj_n3, pk_mul, nI_add, nI_1]) rfl rfl H))
  · (repeat (first | refine br_t (by decide) ?_ | refine br_f (by decide) ?_))
    refine ⟨hin, ?_⟩
    rw [ep]
    by_cases c : d_args p = 0
    · rw [decide_eq_true c] at H
      refine br_t c ⟨hin, ?_⟩
      rw [ep]
      exact br_t c (my_c313 rfl rfl rfl H)
    · rw [decide_eq_false c] at H
      refine br_f c ⟨hin, ?_⟩
      rw [ep]
      exact br_f c (my_c313 rfl rfl rfl H)
  · (repeat (first | refine br_t (by decide) ?_ | refine br_f (by decide) ?_))
    exact my_c313 rfl rfl rfl H
  · (repeat (first | refine br_t (by decide) ?_ | refine br_f (by decide) ?_))
    exact my_c313 rfl rfl rfl H
  · (repeat (first | refine br_t (by decide) ?_ | refine br_f (by decide) ?_))
    exact nm_e (my_c313 (v := pj_rs (pj_rs v) * 3 + 1) (by rw [pj_n3, pk_mul, nI_1]) rfl rfl H)
  · (repeat (first | refine br_t (by decide) ?_ | refine br_f (by decide) ?_))
    exact my_c313 rfl rfl rfl H
theorem pj_tpI {v : Nat} (hv : v < 2 ^ 31) (h0 : 0 < v) : (nI v - 1) - (nI v - 1) / 3 * 3 = nI (pj_tp v) := by
  rw [pj_n1, pk_sub h0, pj_n3, pk_rem (by omega) (by omega) (by omega)]
  rfl
theorem pj_rsI {v : Nat} (hv : v < 2 ^ 31) (h0 : 0 < v) : (nI v - 1) / 3 = nI (pj_rs v) := by
  rw [pj_n1, pk_sub h0, pj_n3, pk_div (by omega) (by omega) (by omega)]
  rfl
theorem my_changed {post : Int32 → Prop} {p s : Nat} (hp : p < 16) (hs : s < 1089) (hO : d_ops = pj_nF O) (ho : O p ≤ 13) (hG : d_args = G) (H : post (nI (pj_ch (O p) (decide (G p = 0)) s))) : wpY_changed post (g_greatest, g_poolSize, g_count, g_doing, g_pc, g_tall, g_made, g_forks, g_bits, d_ops, d_args, d_reached, d_fresh, d_coming, d_dist, d_stack, d_locals, d_fields) (nI s) (nI p) := by
  subst hG
  have e0 : d_ops (nI p).toNatClampNeg = nI (O p) := by rw [nI_clamp (by omega), hO]; rfl
  have e9 : nI s / 9 = nI (s / 9) := by rw [pj_n9, pk_div (by omega) (by omega) (by omega)]
  have e3 : (nI s / 3) - (nI s / 3) / 3 * 3 = nI (s / 3 % 3) := by rw [pj_n3, pk_div (by omega) (by omega) (by omega), pk_rem (by omega) (by omega) (by omega)]
  have e3' : nI s - nI s / 3 * 3 = nI (s % 3) := by rw [pj_n3, pk_rem (by omega) (by omega) (by omega)]
  refine ⟨vp_in_nI hp (by decide), nm_r e0 ⟨by decide, nm_r e9 ⟨by decide, by decide, nm_r e3 ⟨by decide, nm_r e3' ?_⟩⟩⟩⟩
  have H' : post (nI (pj_chv (O p) (decide (d_args p = 0)) (s / 9) (s / 3 % 3) (s % 3) * 9 + pj_cha (O p) (decide (d_args p = 0)) (s / 9) (s / 3 % 3) * 3 + pj_chb (O p) (decide (d_args p = 0)) (s / 9) (s % 3))) := H
  clear H
  have hv : s / 9 < 121 := by omega
  generalize s / 9 = v at *
  generalize s / 3 % 3 = a at *
  generalize s % 3 = b at *
  have hr := pj_rs121 hv
  have k74 : wY_changed_74 post (nI p) (nI (O p)) (nI v) (nI a) (nI b) (nI (pj_tp v)) (nI (pj_rs v)) (nI (pj_tp (pj_rs v))) g_greatest g_poolSize g_count g_doing g_pc g_tall g_made g_forks g_bits d_ops d_args d_reached d_fresh d_coming d_dist d_stack d_locals d_fields := by
    by_cases c : pj_rs v = 0
    · refine br_t (by rw [c]; decide) ?_
      exact my_c91 (r2 := 0) hp ho rfl rfl rfl (by rw [c]; rfl) H'
    · refine br_f (nI_nle (by omega) (by omega)) ⟨by decide, ?_⟩
      rw [pj_rsI (by omega) (by omega)]
      exact my_c91 hp ho rfl rfl rfl rfl H'
  have k57 : wY_changed_57 post (nI p) (nI (O p)) (nI v) (nI a) (nI b) (nI (pj_tp v)) (nI (pj_rs v)) g_greatest g_poolSize g_count g_doing g_pc g_tall g_made g_forks g_bits d_ops d_args d_reached d_fresh d_coming d_dist d_stack d_locals d_fields := by
    by_cases c : pj_rs v = 0
    · refine br_t (by rw [c]; decide) ?_
      have e : pj_tp (pj_rs v) = 0 := by rw [c]; rfl
      rw [e] at k74
      exact k74
    · refine br_f (nI_nle (by omega) (by omega)) ⟨by decide, ?_⟩
      rw [pj_tpI (by omega) (by omega)]
      exact k74
  have k40 : wY_changed_40 post (nI p) (nI (O p)) (nI v) (nI a) (nI b) (nI (pj_tp v)) g_greatest g_poolSize g_count g_doing g_pc g_tall g_made g_forks g_bits d_ops d_args d_reached d_fresh d_coming d_dist d_stack d_locals d_fields := by
    by_cases c : v = 0
    · refine br_t (by rw [c]; decide) ?_
      have e : pj_rs v = 0 := by rw [c]; rfl
      rw [e] at k57
      exact k57
    · refine br_f (nI_nle (by omega) (by omega)) ⟨by decide, ?_⟩
      rw [pj_rsI (by omega) (by omega)]
      exact k57
  by_cases c : v = 0
  · refine br_t (by rw [c]; decide) ?_
    have e : pj_tp v = 0 := by rw [c]; rfl
    rw [e] at k40
    exact k40
  · refine br_f (nI_nle (by omega) (by omega)) ⟨by decide, ?_⟩
    rw [pj_tpI (by omega) (by omega)]
    exact k40
theorem my_reach {post : SY → Prop} {t : Nat} {q : Int32} (hn : n ≤ 16) (hc : g_count = nI n) (ht : t < 1089)
    (H : ∀ cm, (∀ s' p', p' < 32 → (bt (cm s') p' = true ↔ bt (d_coming s') p' = true ∨ (s' = t ∧ p' < n ∧ q = nI p'))) → post (g_greatest, g_poolSize, g_count, g_doing, g_pc, g_tall, g_made, g_forks, g_bits, d_ops, d_args, d_reached, d_fresh, cm, d_dist, d_stack, d_locals, d_fields)) : wpY_reach post (g_greatest, g_poolSize, g_count, g_doing, g_pc, g_tall, g_made, g_forks, g_bits, d_ops, d_args, d_reached, d_fresh, d_coming, d_dist, d_stack, d_locals, d_fields) (nI t) q := by
  subst hc
  have out : (q < 0 ∨ nI n ≤ q) → post (g_greatest, g_poolSize, nI n, g_doing, g_pc, g_tall, g_made, g_forks, g_bits, d_ops, d_args, d_reached, d_fresh, d_coming, d_dist, d_stack, d_locals, d_fields) := fun h => by
    refine H d_coming (fun s' p' _ => ⟨Or.inl, fun z => z.elim id (fun z => ?_)⟩)
    obtain ⟨_, hp, rfl⟩ := z
    rcases h with h | h
    · exact absurd h (nI_pos (by omega))
    · exact absurd h (nI_ge hp (by omega))
  rcases pk_ix q (n := n) (by omega) with h | h | ⟨j, hj, rfl⟩
  · exact br_t h (out (Or.inl h))
  · by_cases h0 : q < 0
    · exact br_t h0 (out (Or.inl h0))
    · exact br_f h0 (br_t h (out (Or.inr h)))
  · refine br_f (nI_pos (by omega)) (br_f (nI_ge hj (by omega)) (br_f (nI_pos (by omega)) (br_f (nI_ge (b := 1089) ht (by decide)) ⟨vp_in_nI ht (by decide), vp_in_nI ht (by decide), nm_e ?_⟩)))
    rw [nI_clamp (by omega)]
    refine H _ (fun s' p' hp' => ?_)
    refine (pj_orB (f := d_coming) (x0 := t) (x := s') (b := p')).trans (or_congr Iff.rfl ?_)
    rw [pj_bt1 j (by omega) p' hp', decide_eq_true_iff]
    exact ⟨fun ⟨a, b⟩ => ⟨a.symm, by omega, by rw [b]⟩, fun ⟨a, b, c⟩ => ⟨a.symm, (nI_eq (by omega) (by omega)).mp c⟩⟩
theorem my_goOn {post : SY → Prop} {p s : Nat} (W : pj_PG n mh O G) (hp : p < n) (hs : s < 1089) (hO : d_ops = pj_nF O) (hG : d_args = G) (hmh : g_greatest = nI mh) (hc : g_count = nI n)
    (H : ∀ cm, (∀ s' p', p' < 32 → (bt (cm s') p' = true ↔ bt (d_coming s') p' = true ∨ pj_St n mh O G p s p' s')) → post (g_greatest, g_poolSize, g_count, g_doing, g_pc, g_tall, g_made, g_forks, g_bits, d_ops, d_args, d_reached, d_fresh, cm, d_dist, d_stack, d_locals, d_fields)) : wpY_goOn post (g_greatest, g_poolSize, g_count, g_doing, g_pc, g_tall, g_made, g_forks, g_bits, d_ops, d_args, d_reached, d_fresh, d_coming, d_dist, d_stack, d_locals, d_fields) (nI s) (nI p) := by
  subst hG
  obtain ⟨hn, m1, m4, hO13, hA⟩ := W
  have ho := hO13 p hp
  have hin := vp_in_nI (n := p) (N := 16) (by omega) (by decide)
  have e0 : d_ops (nI p).toNatClampNeg = nI (O p) := by rw [nI_clamp (by omega), hO]; rfl
  unfold wpY_goOn
  refine my_stuck (by omega) hs hO ho hmh m4 ?_
  refine pk_eq (pj_sk mh (O p) s) 0 (fun hk => ?_) (fun hk => ?_) rfl rfl (by unfold pj_sk; (repeat' split) <;> omega)
  · have ht := pj_ch_lt (z := decide (d_args p = 0)) hs m4 hk
    have g50 : ∀ cm0, (∀ cm, (∀ s' p', p' < 32 → (bt (cm s') p' = true ↔ bt (cm0 s') p' = true ∨ (O p ≠ 10 ∧ O p ≠ 13 ∧ p' < n ∧ s' = pj_ch (O p) (decide (d_args p = 0)) s ∧ p' = p + 1))) → post (g_greatest, g_poolSize, g_count, g_doing, g_pc, g_tall, g_made, g_forks, g_bits, d_ops, d_args, d_reached, d_fresh, cm, d_dist, d_stack, d_locals, d_fields)) → wY_goOn_50 post (nI p) (nI (pj_ch (O p) (decide (d_args p = 0)) s)) g_greatest g_poolSize g_count g_doing g_pc g_tall g_made g_forks g_bits d_ops d_args d_reached d_fresh (cm0) d_dist d_stack d_locals d_fields := fun cm0 K => by
      refine ⟨hin, ?_⟩
      rw [e0]
      refine pk_eq (O p) 10 (fun h => K cm0 (fun s' p' _ => ⟨Or.inl, fun z => z.elim id (fun z => absurd h z.1)⟩)) (fun h10 => ⟨hin, ?_⟩)
      refine pk_eq (O p) 13 (fun h => K cm0 (fun s' p' _ => ⟨Or.inl, fun z => z.elim id (fun z => absurd h z.2.1)⟩)) (fun h13 => ?_)
      rw [nI_1]
      refine my_reach hn hc ht (fun cm hcm => K cm (fun s' p' hp' => (hcm s' p' hp').trans (or_congr Iff.rfl ?_)))
      exact ⟨fun ⟨a, b, c⟩ => ⟨h10, h13, b, a, ((nI_eq (by omega) (by omega)).mp c).symm⟩, fun ⟨_, _, b, a, c⟩ => ⟨a, b, by rw [c]⟩⟩
    have g39 : (O p = 10 ∨ O p = 11) → wY_goOn_39 post (nI p) (nI (pj_ch (O p) (decide (d_args p = 0)) s)) g_greatest g_poolSize g_count g_doing g_pc g_tall g_made g_forks g_bits d_ops d_args d_reached d_fresh d_coming d_dist d_stack d_locals d_fields := fun h1011 => by
      refine ⟨hin, ?_⟩
      rw [nI_clamp (by omega)]
      refine my_reach hn hc ht (fun cm hcm => ?_)
      refine g50 cm (fun cm' hcm' => ?_)
      refine H cm' (fun s' p' hp' => ?_)
      rw [hcm' s' p' hp', hcm s' p' hp']
      unfold pj_St
      constructor
      · rintro ((h | ⟨a, b, c⟩) | ⟨a, b, c, d, e⟩)
        · exact Or.inl h
        · exact Or.inr ⟨b, hk, a, Or.inl ⟨h1011, c⟩⟩
        · exact Or.inr ⟨c, hk, d, Or.inr ⟨a, b, e⟩⟩
      · rintro (h | ⟨a, b, c, (⟨d, e⟩ | ⟨d, e, f⟩)⟩)
        · exact Or.inl (Or.inl h)
        · exact Or.inl (Or.inr ⟨c, a, e⟩)
        · exact Or.inr ⟨d, e, a, c, f⟩
    refine my_changed (by omega) hs hO ho rfl ⟨hin, ?_⟩
    rw [e0]
    refine pk_eq (O p) 10 (fun h => g39 (Or.inl h)) (fun h10 => ⟨hin, ?_⟩)
    refine pk_eq (O p) 11 (fun h => g39 (Or.inr h)) (fun h11 => ?_)
    refine g50 _ (fun cm' hcm' => ?_)
    refine H cm' (fun s' p' hp' => ?_)
    rw [hcm' s' p' hp']
    unfold pj_St
    constructor
    · rintro (h | ⟨a, b, c, d, e⟩)
      · exact Or.inl h
      · exact Or.inr ⟨c, hk, d, Or.inr ⟨a, b, e⟩⟩
    · rintro (h | ⟨a, b, c, (⟨d, e⟩ | ⟨d, e, f⟩)⟩)
      · exact Or.inl h
      · exact d.elim (fun z => absurd z h10) (fun z => absurd z h11)
      · exact Or.inr ⟨d, e, a, c, f⟩
  · refine H _ (fun s' p' _ => ⟨Or.inl, fun z => z.elim id (fun z => absurd z.2.1 hk)⟩)
end
end
section
/-! the reference's judge -/
def pj_New (n mh : Nat) (O : Nat → Nat) (G : Nat → Int32) (r p s : Nat) : Prop := pj_D n mh O G r p s ∧ ¬ ∃ k, k < r ∧ pj_D n mh O G k p s
/-- in a round: what the processed fresh ones (Pr) have brought -/
def pj_CI (n mh : Nat) (O : Nat → Nat) (G : Nat → Int32) (r : Nat) (F Pr : Nat → Nat → Prop) (ds0 cm ds : Nat → Int32) : Prop :=
  (∀ s' p', s' < 1089 → p' < 32 → (bt (cm s') p' = true ↔ ∃ s p, Pr s p ∧ F s p ∧ pj_St n mh O G p s p' s')) ∧
  (∀ p, p < 16 → ((¬ 0 ≤ ds0 p ∧ ∃ s, Pr s p ∧ F s p) → ds p = nI r) ∧ (¬ (¬ 0 ≤ ds0 p ∧ ∃ s, Pr s p ∧ F s p) → ds p = ds0 p))
theorem pj_CIc {n mh : Nat} {O : Nat → Nat} {G : Nat → Int32} {r : Nat} {F Pr Pr' : Nat → Nat → Prop} {ds0 cm ds : Nat → Int32} (I : pj_CI n mh O G r F Pr ds0 cm ds) (h : ∀ s p, F s p → (Pr' s p ↔ Pr s p)) : pj_CI n mh O G r F Pr' ds0 cm ds := by
  have e : ∀ p, (∃ s, Pr' s p ∧ F s p) ↔ (∃ s, Pr s p ∧ F s p) := fun p => ⟨fun ⟨s, a, b⟩ => ⟨s, (h s p b).mp a, b⟩, fun ⟨s, a, b⟩ => ⟨s, (h s p b).mpr a, b⟩⟩
  refine ⟨fun s' p' hs hp => (I.1 s' p' hs hp).trans ⟨fun ⟨s, p, a, b, c⟩ => ⟨s, p, (h s p b).mpr a, b, c⟩, fun ⟨s, p, a, b, c⟩ => ⟨s, p, (h s p b).mp a, b, c⟩⟩, fun p hp => ?_⟩
  rw [e p]
  exact I.2 p hp
theorem pj_CIs {n mh : Nat} {O : Nat → Nat} {G : Nat → Int32} {r : Nat} {F Pr Pr' : Nat → Nat → Prop} {ds0 cm ds cm' ds' : Nat → Int32} {s p : Nat} (I : pj_CI n mh O G r F Pr ds0 cm ds) (hr : r < 2 ^ 31) (hp : p < 16) (hF : F s p) (h : ∀ s' p', Pr' s' p' ↔ Pr s' p' ∨ (s' = s ∧ p' = p))
    (hcm : ∀ s' p', p' < 32 → (bt (cm' s') p' = true ↔ bt (cm s') p' = true ∨ pj_St n mh O G p s p' s')) (h1 : 0 ≤ ds p → ds' = ds) (h2 : ¬ 0 ≤ ds p → ds' = upd ds p (nI r)) : pj_CI n mh O G r F Pr' ds0 cm' ds' := by
  refine ⟨fun s' p' hs' hp' => ?_, fun p' hp' => ?_⟩
  · rw [hcm s' p' hp', I.1 s' p' hs' hp']
    constructor
    · rintro (⟨a, b, c, d, e⟩ | e)
      · exact ⟨a, b, (h a b).mpr (Or.inl c), d, e⟩
      · exact ⟨s, p, (h s p).mpr (Or.inr ⟨rfl, rfl⟩), hF, e⟩
    · rintro ⟨a, b, c, d, e⟩
      rcases (h a b).mp c with c | ⟨rfl, rfl⟩
      · exact Or.inl ⟨a, b, c, d, e⟩
      · exact Or.inr e
  · obtain ⟨i1, i2⟩ := I.2 p' hp'
    by_cases c : p' = p
    · subst c
      have ex : ∃ s', Pr' s' p' ∧ F s' p' := ⟨s, (h s p').mpr (Or.inr ⟨rfl, rfl⟩), hF⟩
      by_cases c0 : 0 ≤ ds0 p'
      · refine ⟨fun z => absurd c0 z.1, fun _ => ?_⟩
        have e := i2 (fun z => z.1 c0)
        rw [h1 (by rw [e]; exact c0)]
        exact e
      · refine ⟨fun _ => ?_, fun z => absurd ⟨c0, ex⟩ z⟩
        rcases Classical.em (∃ s', Pr s' p' ∧ F s' p') with c1 | c1
        · have e := i1 ⟨c0, c1⟩
          rw [h1 (by rw [e]; exact nI_pos' hr)]
          exact e
        · have e := i2 (fun z => c1 z.2)
          rw [h2 (by rw [e]; exact c0), pk_us]
    · have ed : ds' p' = ds p' := by
        by_cases c0 : 0 ≤ ds p
        · rw [h1 c0]
        · rw [h2 c0, pk_un c]
      have ee : (∃ s', Pr' s' p' ∧ F s' p') ↔ (∃ s', Pr s' p' ∧ F s' p') := ⟨fun ⟨a, b, d⟩ => ⟨a, ((h a p').mp b).elim id (fun z => absurd z.2 c), d⟩, fun ⟨a, b, d⟩ => ⟨a, (h a p').mpr (Or.inl b), d⟩⟩
      rw [ed, ee]
      exact ⟨i1, i2⟩
def pj_YD (n mh : Nat) (O : Nat → Nat) (G : Nat → Int32) (r p : Nat) (d : Int32) : Prop :=
  (d = -1 ∧ ∀ k, k < r → ∀ s, ¬ pj_D n mh O G k p s) ∨ ∃ k, k < r ∧ d = nI k ∧ (∃ s, pj_D n mh O G k p s) ∧ ∀ k', k' < k → ∀ s, ¬ pj_D n mh O G k' p s
def pj_YI (n mh : Nat) (O : Nat → Nat) (G : Nat → Int32) (r : Nat) (rc cm ds : Nat → Int32) : Prop :=
  (∀ s p, s < 1089 → p < 32 → (bt (rc s) p = true ↔ ∃ k, k < r ∧ pj_D n mh O G k p s)) ∧
  (∀ s p, s < 1089 → p < 32 → bt (cm s) p = true → pj_D n mh O G r p s) ∧
  (∀ s p, pj_D n mh O G r p s → bt (cm s) p = true ∨ bt (rc s) p = true) ∧
  (∀ p, p < 16 → pj_YD n mh O G r p (ds p))
theorem pj_YIs {n mh : Nat} {O : Nat → Nat} {G : Nat → Int32} {r : Nat} {rc cm ds fr rc' cm' ds' : Nat → Int32} (W : pj_PG n mh O G) (hr : r < 2 ^ 31) (I : pj_YI n mh O G r rc cm ds)
    (hf : ∀ s, s < 1089 → fr s = cm s &&& (rc s ^^^ (-1)) ∧ rc' s = rc s ||| fr s) :
    (∀ s p, s < 1089 → p < 32 → (bt (fr s) p = true ↔ pj_New n mh O G r p s)) ∧
    (pj_CI n mh O G r (fun s p => s < 1089 ∧ bt (fr s) p = true) (fun s _ => s < 1089) ds cm' ds' → pj_YI n mh O G (r + 1) rc' cm' ds') := by
  obtain ⟨i1, i2, i3, i4⟩ := I
  have hn := W.1
  have fN : ∀ s p, s < 1089 → p < 32 → (bt (fr s) p = true ↔ pj_New n mh O G r p s) := fun s p hs hp => by
    rw [(hf s hs).1, b_and, b_xor, b_m1 p hp, Bool.and_eq_true]
    unfold pj_New
    rw [← i1 s p hs hp]
    constructor
    · rintro ⟨a, b⟩
      refine ⟨i2 s p hs hp a, fun z => ?_⟩
      rw [z] at b
      exact absurd b (by decide)
    · rintro ⟨a, b⟩
      have b' : bt (rc s) p = false := by simpa using b
      rcases i3 s p a with h | h
      · exact ⟨h, by rw [b']; rfl⟩
      · exact absurd h b
  refine ⟨fN, fun C => ?_⟩
  have fD : ∀ s p, (s < 1089 ∧ bt (fr s) p = true) ↔ pj_New n mh O G r p s := fun s p => by
    constructor
    · rintro ⟨a, b⟩
      rcases Nat.lt_or_ge p 32 with hp | hp
      · exact (fN s p a hp).mp b
      · rw [b_big hp] at b
        exact absurd b (by decide)
    · intro h
      have hl := pj_Dlt W _ _ _ h.1
      exact ⟨hl.2, (fN s p hl.2 (by omega)).mpr h⟩
  refine ⟨fun s p hs hp => ?_, fun s p hs hp h => ?_, fun s p h => ?_, fun p hp => ?_⟩
  · rw [(hf s hs).2, b_or, Bool.or_eq_true, i1 s p hs hp, fN s p hs hp]
    constructor
    · rintro (⟨k, a, b⟩ | ⟨a, b⟩)
      · exact ⟨k, by omega, b⟩
      · exact ⟨r, by omega, a⟩
    · rintro ⟨k, a, b⟩
      rcases Classical.em (∃ k, k < r ∧ pj_D n mh O G k p s) with c | c
      · exact Or.inl c
      · have e : k = r := by
          rcases Nat.lt_or_ge k r with h | h
          · exact absurd ⟨k, h, b⟩ c
          · omega
        subst e
        exact Or.inr ⟨b, c⟩
  · obtain ⟨s1, p1, _, h1, h2⟩ := (C.1 s p hs hp).mp h
    exact ⟨p1, s1, ((fD s1 p1).mp h1).1, h2⟩
  · obtain ⟨p1, s1, h1, h2⟩ := h
    have hl1 := pj_Dlt W _ _ _ h1
    have hl := pj_Dlt W (r + 1) p s ⟨p1, s1, h1, h2⟩
    rcases Classical.em (∃ k, k < r ∧ pj_D n mh O G k p1 s1) with ⟨k, c1, c2⟩ | c
    · refine Or.inr ?_
      rw [(hf s hl.2).2, b_or, Bool.or_eq_true, i1 s p hl.2 (by omega), fN s p hl.2 (by omega)]
      rcases Classical.em (∃ k, k < r ∧ pj_D n mh O G k p s) with c | c
      · exact Or.inl c
      · have e : k + 1 = r := by
          rcases Nat.lt_or_ge (k + 1) r with h | h
          · exact absurd ⟨k + 1, h, p1, s1, c2, h2⟩ c
          · omega
        refine Or.inr ⟨?_, c⟩
        rw [← e]
        exact ⟨p1, s1, c2, h2⟩
    · exact Or.inl ((C.1 s p hl.2 (by omega)).mpr ⟨s1, p1, hl1.2, (fD s1 p1).mpr ⟨h1, c⟩, h2⟩)
  · obtain ⟨c1, c2⟩ := C.2 p hp
    rcases i4 p hp with ⟨a1, a2⟩ | ⟨k, a1, a2, a3, a4⟩
    · have hn0 : ¬ 0 ≤ ds p := by rw [a1]; decide
      rcases Classical.em (∃ s, pj_D n mh O G r p s) with ⟨s, hs⟩ | c
      · have hl := pj_Dlt W _ _ _ hs
        have e := c1 ⟨hn0, s, hl.2, (fD s p).mpr ⟨hs, fun ⟨k, b1, b2⟩ => a2 k b1 s b2⟩⟩
        exact Or.inr ⟨r, by omega, e, ⟨s, hs⟩, a2⟩
      · have e := c2 (fun ⟨_, s, _, z⟩ => c ⟨s, ((fD s p).mp z).1⟩)
        refine Or.inl ⟨by rw [e]; exact a1, fun k hk s hs => ?_⟩
        rcases Nat.lt_or_ge k r with h | h
        · exact a2 k h s hs
        · have ek : k = r := by omega
          subst ek
          exact c ⟨s, hs⟩
    · have h0 : 0 ≤ ds p := by rw [a2]; exact nI_pos' (by omega)
      have e := c2 (fun z => z.1 h0)
      exact Or.inr ⟨k, by omega, by rw [e]; exact a2, a3, a4⟩
theorem pj_cnt {n mh : Nat} {O : Nat → Nat} {G : Nat → Int32} (W : pj_PG n mh O G) : ∀ r, (∀ r', r' < r → ∃ p s, pj_New n mh O G r' p s) → r ≤ pj_cp (fun N => ∃ k, k < r ∧ pj_D n mh O G k (pj_yp N) (pj_ys N)) 17424 := by
  intro r
  induction r with
  | zero => intro _; exact Nat.zero_le _
  | succ r ih =>
    intro h
    have h1 := ih (fun r' hr' => h r' (by omega))
    obtain ⟨p, s, hD, hN⟩ := h r (by omega)
    have hl := pj_Dlt W _ _ _ hD
    have hn := W.1
    have h2 := pj_cps (A := fun N => ∃ k, k < r ∧ pj_D n mh O G k (pj_yp N) (pj_ys N)) (B := fun N => ∃ k, k < r + 1 ∧ pj_D n mh O G k (pj_yp N) (pj_ys N)) (N := pj_xn p s)
      ⟨r, by omega, by rw [pj_ypx hl.2, pj_ysx hl.2]; exact hD⟩ (by rw [pj_ypx hl.2, pj_ysx hl.2]; exact hN) 17424 (pj_xnlt (by omega) hl.2) (fun i _ ⟨k, a, b⟩ => ⟨k, by omega, b⟩)
    omega
/-- what the reference's judge has found -/
def pj_CY (n mh : Nat) (O : Nat → Nat) (G : Nat → Int32) (rc ds : Nat → Int32) : Prop :=
  (∀ s p, s < 1089 → p < 32 → (bt (rc s) p = true ↔ pj_Rc n mh O G p s)) ∧ (∀ p, p < 16 → pj_DS n mh O G p (ds p))
theorem pj_YIe {n mh : Nat} {O : Nat → Nat} {G : Nat → Int32} {r : Nat} {rc cm ds : Nat → Int32} (I : pj_YI n mh O G (r + 1) rc cm ds) (h : ∀ p s, ¬ pj_New n mh O G r p s) : pj_CY n mh O G rc ds := by
  have all : ∀ k p s, pj_D n mh O G k p s → ∃ k', k' < r ∧ k' ≤ k ∧ pj_D n mh O G k' p s := by
    have hr : ∀ p s, pj_D n mh O G r p s → ∃ k', k' < r ∧ pj_D n mh O G k' p s := fun p s hd => Classical.byContradiction (fun z => h p s ⟨hd, z⟩)
    intro k
    induction k with
    | zero =>
      intro p s hd
      rcases Nat.eq_zero_or_pos r with e | e
      · subst e
        obtain ⟨k', hk', _⟩ := hr p s hd
        omega
      · exact ⟨0, e, Nat.le_refl _, hd⟩
    | succ k ih =>
      intro p s hd
      obtain ⟨p1, s1, h1, h2⟩ := hd
      obtain ⟨k', a, a', b⟩ := ih p1 s1 h1
      rcases Nat.lt_or_ge (k' + 1) r with c | c
      · exact ⟨k' + 1, c, by omega, p1, s1, b, h2⟩
      · have e : r = k' + 1 := by omega
        obtain ⟨k2, b1, b2⟩ := hr p s (by rw [e]; exact ⟨p1, s1, b, h2⟩)
        exact ⟨k2, b1, by omega, b2⟩
  obtain ⟨i1, i2, i3, i4⟩ := I
  refine ⟨fun s p hs hp => ?_, fun p hp => ?_⟩
  · rw [i1 s p hs hp]
    constructor
    · rintro ⟨k, _, b⟩
      exact ⟨k, b⟩
    · rintro ⟨k, b⟩
      obtain ⟨k', a, _, c⟩ := all k p s b
      exact ⟨k', by omega, c⟩
  · rcases i4 p hp with ⟨a1, a2⟩ | ⟨k, a1, a2, a3, a4⟩
    · refine Or.inl ⟨a1, fun k s hd => ?_⟩
      obtain ⟨k', a, _, c⟩ := all k p s hd
      exact a2 k' (by omega) s c
    · refine Or.inr ⟨k, a2, a3, fun k' s hd => ?_⟩
      rcases Nat.lt_or_ge k' k with c | c
      · exact absurd hd (a4 k' c s)
      · exact c
section
variable {g_greatest g_poolSize g_count g_doing g_pc g_tall g_made g_forks g_bits : Int32} {d_ops d_args d_reached d_fresh d_coming d_dist d_stack d_locals d_fields : Nat → Int32} {n mh : Nat} {O : Nat → Nat} {G : Nat → Int32}
theorem my_spreadL {post : SY → Prop} {s r : Nat} {ds0 : Nat → Int32} {F : Nat → Nat → Prop} (W : pj_PG n mh O G) (hs : s < 1089) (hr : r < 2 ^ 31) (hF : ∀ p, p < 32 → (F s p ↔ bt (d_fresh s) p = true)) (hO : d_ops = pj_nF O) (hG : d_args = G) (hmh : g_greatest = nI mh) (hc : g_count = nI n)
    (H : ∀ cm ds, pj_CI n mh O G r F (fun s' p' => s' < s ∨ (s' = s ∧ p' < n)) ds0 cm ds → post (g_greatest, g_poolSize, g_count, g_doing, g_pc, g_tall, g_made, g_forks, g_bits, d_ops, d_args, d_reached, d_fresh, cm, ds, d_stack, d_locals, d_fields)) :
    ∀ d j cm ds, j + d = n → pj_CI n mh O G r F (fun s' p' => s' < s ∨ (s' = s ∧ p' < j)) ds0 cm ds → wY_spread_2 post (nI s) (nI r) (d + 1) (nI j) g_greatest g_poolSize g_count g_doing g_pc g_tall g_made g_forks g_bits d_ops d_args d_reached d_fresh (cm) (ds) d_stack d_locals d_fields := by
  have hn := W.1
  intro d
  induction d with
  | zero =>
    intro j cm ds hj I
    have e : j = n := by omega
    subst e
    exact br_t (by rw [hc]; exact nI_le (Nat.le_refl _) (by omega)) (H _ _ I)
  | succ d ih =>
    intro j cm ds hj I
    have hin := vp_in_nI (n := j) (N := 16) (by omega) (by decide)
    refine br_f (by rw [hc]; exact nI_ge (by omega) (by omega)) ⟨vp_in_nI hs (by decide), ?_⟩
    rw [nI_clamp (n := s) (by omega)]
    by_cases c : bt (d_fresh s) j = true
    · refine br_t ((pj_bit _ (by omega)).mpr c) ⟨hin, ?_⟩
      rw [nI_clamp (n := j) (by omega)]
      have hPr : ∀ s' p', (s' < s ∨ (s' = s ∧ p' < j + 1)) ↔ (s' < s ∨ (s' = s ∧ p' < j)) ∨ (s' = s ∧ p' = j) := fun s' p' => by omega
      have go : ∀ ds', (0 ≤ ds j → ds' = ds) → (¬ 0 ≤ ds j → ds' = upd ds j (nI r)) → wY_spread_40 post (wY_spread_2 post (nI s) (nI r) (d + 1)) (nI s) (nI r) (nI j) g_greatest g_poolSize g_count g_doing g_pc g_tall g_made g_forks g_bits d_ops d_args d_reached d_fresh (cm) (ds') d_stack d_locals d_fields := fun ds' h1 h2 => by
        refine my_goOn W (by omega) hs hO hG hmh hc (fun cm' hcm => nm_r (nI_1 j) ?_)
        exact ih (j + 1) cm' ds' (by omega) (pj_CIs I hr (by omega) ((hF j (by omega)).mpr c) hPr hcm h1 h2)
      by_cases c0 : 0 ≤ ds j
      · exact br_t c0 (go ds (fun _ => rfl) (fun z => absurd c0 z))
      · exact br_f c0 ⟨hin, nm_e (go _ (fun z => absurd z c0) (fun _ => rfl))⟩
    · refine br_f (fun z => c ((pj_bit _ (by omega)).mp z)) (nm_r (nI_1 j) ?_)
      refine ih (j + 1) cm ds (by omega) (pj_CIc I (fun s' p' hf => ?_))
      constructor
      · rintro (h | ⟨h1, h2⟩)
        · exact Or.inl h
        · by_cases e : p' = j
          · subst e
            subst h1
            exact absurd ((hF _ (by omega)).mp hf) c
          · exact Or.inr ⟨h1, by omega⟩
      · rintro (h | ⟨h1, h2⟩)
        · exact Or.inl h
        · exact Or.inr ⟨h1, by omega⟩
theorem my_round85 {post : Int32 → SY → Prop} {r : Nat} {any : Int32} {ds0 : Nat → Int32} (W : pj_PG n mh O G) (hr : r < 2 ^ 31) (hany : any = 0 ∨ any = 1) (hfn : ∀ s p, s < 1089 → bt (d_fresh s) p = true → p < n) (hO : d_ops = pj_nF O) (hG : d_args = G) (hmh : g_greatest = nI mh) (hc : g_count = nI n)
    (H : ∀ cm ds, pj_CI n mh O G r (fun s p => s < 1089 ∧ bt (d_fresh s) p = true) (fun s _ => s < 1089) ds0 cm ds → post any (g_greatest, g_poolSize, g_count, g_doing, g_pc, g_tall, g_made, g_forks, g_bits, d_ops, d_args, d_reached, d_fresh, cm, ds, d_stack, d_locals, d_fields)) :
    ∀ d i cm ds, i + d = 1089 → pj_CI n mh O G r (fun s p => s < 1089 ∧ bt (d_fresh s) p = true) (fun s _ => s < i) ds0 cm ds → wY_round_85 post (nI r) any (d + 1) (nI i) g_greatest g_poolSize g_count g_doing g_pc g_tall g_made g_forks g_bits d_ops d_args d_reached d_fresh (cm) (ds) d_stack d_locals d_fields := by
  have hn := W.1
  intro d
  induction d with
  | zero =>
    intro i cm ds hi I
    have e : i = 1089 := by omega
    subst e
    refine br_t (by decide) ⟨?_, H _ _ I⟩
    rcases hany with rfl | rfl <;> rfl
  | succ d ih =>
    intro i cm ds hi I
    refine br_f (nI_ge (b := 1089) (by omega) (by decide)) ⟨vp_in_nI (by omega) (by decide), ?_⟩
    rw [nI_clamp (by omega)]
    by_cases c : d_fresh i = 0
    · refine br_t c (nm_r (nI_1 i) (ih (i + 1) cm ds (by omega) (pj_CIc I (fun s p hf => ?_))))
      constructor
      · intro h
        by_cases e : s = i
        · subst e
          have := hf.2
          rw [c, b_0] at this
          exact absurd this (by decide)
        · show s < i
          omega
      · intro h
        show s < i + 1
        have h' : s < i := h
        omega
    · refine br_f c ⟨n + 1, ?_⟩
      refine my_spreadL (F := fun s p => s < 1089 ∧ bt (d_fresh s) p = true) W (by omega) hr (fun p _ => ⟨fun z => z.2, fun z => ⟨by omega, z⟩⟩) hO hG hmh hc (fun cm' ds' I' => nm_r (nI_1 i) (ih (i + 1) cm' ds' (by omega) (pj_CIc I' (fun s p hf => ?_)))) n 0 cm ds (by omega) (pj_CIc I (fun s p hf => ?_))
      · have := hfn s p hf.1 hf.2
        constructor
        · intro h
          have h' : s < i + 1 := h
          omega
        · intro h
          show s < i + 1
          omega
      · constructor
        · intro h
          show s < i
          omega
        · intro h
          have h' : s < i := h
          exact Or.inl h'
theorem my_round4 {post : Int32 → SY → Prop} {r : Nat} {rc0 cm0 : Nat → Int32}
    (H : ∀ any rc fr cm, (any = 0 ∨ any = 1) → (any = 0 ↔ ∀ s, s < 1089 → fr s = 0) → (∀ s, s < 1089 → fr s = cm0 s &&& (rc0 s ^^^ (-1)) ∧ rc s = rc0 s ||| fr s) → (∀ s, s < 1089 → cm s = 0) → ∃ m : Nat, wY_round_85 post (nI r) any m 0 g_greatest g_poolSize g_count g_doing g_pc g_tall g_made g_forks g_bits d_ops d_args (rc) (fr) (cm) d_dist d_stack d_locals d_fields) :
    ∀ d i any rc fr cm, i + d = 1089 → (any = 0 ∨ any = 1) → (any = 0 ↔ ∀ s, s < i → fr s = 0) → (∀ s, s < i → fr s = cm0 s &&& (rc0 s ^^^ (-1)) ∧ rc s = rc0 s ||| fr s) → (∀ s, s < i → cm s = 0) → (∀ s, i ≤ s → rc s = rc0 s ∧ cm s = cm0 s) → wY_round_4 post (nI r) g_greatest g_poolSize g_count g_doing g_pc g_tall g_made g_forks g_bits (d + 1) any (nI i) d_ops d_args (rc) (fr) (cm) d_dist d_stack d_locals d_fields := by
  intro d
  induction d with
  | zero =>
    intro i any rc fr cm hi h1 h2 h3 h4 h5
    have e : i = 1089 := by omega
    subst e
    exact br_t (by decide) (H any rc fr cm h1 h2 h3 h4)
  | succ d ih =>
    intro i any rc fr cm hi h1 h2 h3 h4 h5
    have hin := vp_in_nI (n := i) (N := 1089) (by omega) (by decide)
    obtain ⟨er, ec⟩ := h5 i (Nat.le_refl _)
    refine br_f (nI_ge (b := 1089) (by omega) (by decide)) ⟨hin, hin, hin, nm_e ⟨hin, nm_e ⟨hin, hin, hin, nm_e ?_⟩⟩⟩
    rw [nI_clamp (by omega), nI_1, pk_us, er, ec]
    generalize hv : cm0 i &&& (rc0 i ^^^ (-1)) = v
    have g3 : ∀ s, s < i + 1 → upd fr i v s = cm0 s &&& (rc0 s ^^^ (-1)) ∧ upd rc i (rc0 i ||| v) s = rc0 s ||| upd fr i v s := fun s hs => by
      by_cases e : s = i
      · subst e; rw [pk_us, pk_us]; exact ⟨hv.symm, rfl⟩
      · rw [pk_un e, pk_un e]; exact h3 s (by omega)
    have g4 : ∀ s, s < i + 1 → upd cm i 0 s = 0 := fun s hs => by
      by_cases e : s = i
      · subst e; rw [pk_us]
      · rw [pk_un e]; exact h4 s (by omega)
    have g5 : ∀ s, i + 1 ≤ s → upd rc i (rc0 i ||| v) s = rc0 s ∧ upd cm i 0 s = cm0 s := fun s hs => by
      rw [pk_un (by omega), pk_un (by omega)]; exact h5 s (by omega)
    have allz : (∀ s, s < i → fr s = 0) → v = 0 → ∀ s, s < i + 1 → upd fr i v s = 0 := fun a b s hs => by
      by_cases e : s = i
      · subst e; rw [pk_us]; exact b
      · rw [pk_un e]; exact a s (by omega)
    have allb : (∀ s, s < i + 1 → upd fr i v s = 0) → v = 0 ∧ ∀ s, s < i → fr s = 0 := fun a => ⟨by have := a i (by omega); rw [pk_us] at this; exact this, fun s hs => by have := a s (by omega); rw [pk_un (by omega)] at this; exact this⟩
    by_cases c : any = 0
    · refine br_t c ⟨hin, ?_⟩
      by_cases c2 : v = 0
      · exact br_t c2 (nm_e (ih (i + 1) 0 _ _ _ (by omega) (Or.inl rfl) ⟨fun _ => allz (h2.mp c) c2, fun _ => rfl⟩ g3 g4 g5))
      · exact br_f c2 (nm_e (ih (i + 1) 1 _ _ _ (by omega) (Or.inr rfl) ⟨fun z => absurd z (by decide), fun z => absurd (allb z).1 c2⟩ g3 g4 g5))
    · exact br_f c (nm_e (ih (i + 1) 1 _ _ _ (by omega) (Or.inr rfl) ⟨fun z => absurd z (by decide), fun z => absurd (h2.mpr (allb z).2) c⟩ g3 g4 g5))
theorem my_round {post : Int32 → SY → Prop} {r : Nat} (W : pj_PG n mh O G) (hr : r < 2 ^ 31) (hO : d_ops = pj_nF O) (hG : d_args = G) (hmh : g_greatest = nI mh) (hc : g_count = nI n) (I : pj_YI n mh O G r d_reached d_coming d_dist)
    (H : ∀ any rc fr cm ds, pj_YI n mh O G (r + 1) rc cm ds → (any = 0 → ∀ p s, ¬ pj_New n mh O G r p s) → (any ≠ 0 → ∃ p s, pj_New n mh O G r p s) → post any (g_greatest, g_poolSize, g_count, g_doing, g_pc, g_tall, g_made, g_forks, g_bits, d_ops, d_args, rc, fr, cm, ds, d_stack, d_locals, d_fields)) : wpY_round post (g_greatest, g_poolSize, g_count, g_doing, g_pc, g_tall, g_made, g_forks, g_bits, d_ops, d_args, d_reached, d_fresh, d_coming, d_dist, d_stack, d_locals, d_fields) (nI r) := by
  have hn := W.1
  refine ⟨1090, my_round4 (fun any rc fr cm h1 h2 h3 h4 => ⟨1090, ?_⟩) 1089 0 0 d_reached d_fresh d_coming (by omega) (Or.inl rfl) ⟨fun _ s hs => by omega, fun _ => rfl⟩ (fun s hs => by omega) (fun s hs => by omega) (fun s hs => ⟨rfl, rfl⟩)⟩
  have hA := (pj_YIs (cm' := cm) (ds' := d_dist) W hr I h3).1
  have hD : ∀ s p, s < 1089 → bt (fr s) p = true → p < n := fun s p hs h => by
    rcases Nat.lt_or_ge p 32 with hp | hp
    · exact (pj_Dlt W _ _ _ ((hA s p hs hp).mp h).1).1
    · rw [b_big hp] at h
      exact absurd h (by decide)
  refine my_round85 W hr h1 hD hO hG hmh hc (fun cm' ds' C => ?_) 1089 0 cm d_dist (by omega) ⟨fun s' p' hs hp => ?_, fun p hp => ⟨fun ⟨_, s, z, _⟩ => absurd z (by omega), fun _ => rfl⟩⟩
  · refine H any rc fr cm' ds' ((pj_YIs W hr I h3).2 C) (fun h0 p s hN => ?_) (fun h0 => ?_)
    · have hl := pj_Dlt W _ _ _ hN.1
      have := (hA s p hl.2 (by omega)).mpr hN
      rw [h2.mp h0 s hl.2, b_0] at this
      exact absurd this (by decide)
    · refine Classical.byContradiction (fun z => h0 (h2.mpr (fun s hs => ?_)))
      apply b_ext
      intro p hp
      rw [b_0]
      cases hb : bt (fr s) p
      · rfl
      · exact absurd ⟨p, s, (hA s p hs hp).mp hb⟩ z
  · rw [h4 s' hs, b_0]
    exact ⟨fun z => absurd z (by decide), fun ⟨s, p, z, _⟩ => absurd z (by omega)⟩
theorem my_judge69 {post : SY → Prop} (W : pj_PG n mh O G) (hO : d_ops = pj_nF O) (hG : d_args = G) (hmh : g_greatest = nI mh) (hc : g_count = nI n)
    (H : ∀ rc fr cm ds, pj_CY n mh O G rc ds → post (g_greatest, g_poolSize, g_count, g_doing, g_pc, g_tall, g_made, g_forks, g_bits, d_ops, d_args, rc, fr, cm, ds, d_stack, d_locals, d_fields)) :
    ∀ d r more rc fr cm ds, r + d = 17500 → pj_YI n mh O G r rc cm ds → (more ≠ 0 → ∀ r', r' < r → ∃ p s, pj_New n mh O G r' p s) → (more = 0 → ∃ r', r = r' + 1 ∧ ∀ p s, ¬ pj_New n mh O G r' p s) → wY_judge_69 post (d + 1) more (nI r) g_greatest g_poolSize g_count g_doing g_pc g_tall g_made g_forks g_bits d_ops d_args (rc) (fr) (cm) (ds) d_stack d_locals d_fields := by
  intro d
  have fin : ∀ r rc fr cm ds, pj_YI n mh O G r rc cm ds → (∃ r', r = r' + 1 ∧ ∀ p s, ¬ pj_New n mh O G r' p s) → post (g_greatest, g_poolSize, g_count, g_doing, g_pc, g_tall, g_made, g_forks, g_bits, d_ops, d_args, rc, fr, cm, ds, d_stack, d_locals, d_fields) := fun r rc fr cm ds I ⟨r', e, h⟩ => by
    subst e
    exact H rc fr cm ds (pj_YIe I h)
  have bound : ∀ r, (∀ r', r' < r → ∃ p s, pj_New n mh O G r' p s) → r ≤ 17424 := fun r h => Nat.le_trans (pj_cnt W r h) (pj_cple _ _)
  induction d with
  | zero =>
    intro r more rc fr cm ds hr I h1 h2
    have e : r = 17500 := by omega
    by_cases c : more = 0
    · subst e
      exact br_t (by decide) (fin _ _ _ _ _ I (h2 c))
    · have := bound r (h1 c)
      omega
  | succ d ih =>
    intro r more rc fr cm ds hr I h1 h2
    refine br_f (nI_ge (b := 17500) (by omega) (by decide)) ?_
    by_cases c : more = 0
    · exact br_t c (fin _ _ _ _ _ I (h2 c))
    · refine br_f c ?_
      refine my_round W (by omega) hO hG hmh hc I (fun any rc' fr' cm' ds' I' a1 a2 => nm_r (nI_1 r) ?_)
      refine ih (r + 1) any rc' fr' cm' ds' (by omega) I' (fun z r' hr' => ?_) (fun z => ⟨r, rfl, a1 z⟩)
      rcases Nat.lt_or_ge r' r with h | h
      · exact h1 c r' h
      · have e : r' = r := by omega
        subst e
        exact a2 z
theorem my_judge31 {post : SY → Prop} (W : pj_PG n mh O G) (hO : d_ops = pj_nF O) (hG : d_args = G) (hmh : g_greatest = nI mh) (hc : g_count = nI n) (hrc : ∀ s, s < 1089 → d_reached s = 0 ∧ d_coming s = 0)
    (H : ∀ rc fr cm ds, pj_CY n mh O G rc ds → post (g_greatest, g_poolSize, g_count, g_doing, g_pc, g_tall, g_made, g_forks, g_bits, d_ops, d_args, rc, fr, cm, ds, d_stack, d_locals, d_fields)) :
    ∀ d i ds, i + d = 16 → (∀ p, p < i → ds p = -1) → wY_judge_31 post g_greatest g_poolSize g_count g_doing g_pc g_tall g_made g_forks g_bits (d + 1) (nI i) d_ops d_args d_reached d_fresh d_coming (ds) d_stack d_locals d_fields := by
  have hn := W.1
  have n0 : ¬ (false = true) := by decide
  intro d
  induction d with
  | zero =>
    intro i ds hi hd
    have e : i = 16 := by omega
    subst e
    have go : ∀ cm, (∀ s p, s < 1089 → p < 32 → (bt (cm s) p = true ↔ 0 < n ∧ p = 0 ∧ s = 8)) → ∃ n69 : Nat, wY_judge_69 post n69 1 0 g_greatest g_poolSize g_count g_doing g_pc g_tall g_made g_forks g_bits d_ops d_args d_reached d_fresh (cm) (ds) d_stack d_locals d_fields := fun cm hcm => by
      refine ⟨17501, my_judge69 W hO hG hmh hc H 17500 0 1 _ _ _ _ (by omega) ⟨fun s p hs hp => ?_, fun s p hs hp h => (hcm s p hs hp).mp h, fun s p h => ?_, fun p hp => Or.inl ⟨hd p hp, fun k hk => by omega⟩⟩ (fun _ r' hr' => by omega) (fun z => absurd z (by decide))⟩
      · rw [(hrc s hs).1, b_0]
        exact ⟨fun z => absurd z n0, fun ⟨k, hk, _⟩ => by omega⟩
      · obtain ⟨h1, rfl, rfl⟩ := h
        exact Or.inl ((hcm 8 0 (by omega) (by omega)).mpr ⟨h1, rfl, rfl⟩)
    refine br_t (by decide) ?_
    refine pk_le n 0 (fun h => go _ (fun s p hs hp => ?_)) (fun h => nm_e (go _ (fun s p hs hp => ?_))) hc rfl
    · rw [(hrc s hs).2, b_0]
      exact ⟨fun z => absurd z n0, fun z => by omega⟩
    · by_cases e : s = 8
      · subst e
        rw [pk_us, pj_b1 p hp, decide_eq_true_iff]
        exact ⟨fun z => ⟨h, z, rfl⟩, fun z => z.2.1⟩
      · rw [pk_un e, (hrc s hs).2, b_0]
        exact ⟨fun z => absurd z n0, fun z => absurd z.2.2 e⟩
  | succ d ih =>
    intro i ds hi hd
    refine br_f (nI_ge (b := 16) (by omega) (by decide)) ⟨vp_in_nI (by omega) (by decide), nm_e (nm_r (nI_1 i) ?_)⟩
    rw [nI_clamp (by omega)]
    refine ih (i + 1) _ (by omega) (fun p hp => ?_)
    by_cases e : p = i
    · subst e; rw [pk_us]
    · rw [pk_un e]; exact hd p (by omega)
theorem my_judge2 {post : SY → Prop} (W : pj_PG n mh O G) (hO : d_ops = pj_nF O) (hG : d_args = G) (hmh : g_greatest = nI mh) (hc : g_count = nI n)
    (H : ∀ rc fr cm ds, pj_CY n mh O G rc ds → post (g_greatest, g_poolSize, g_count, g_doing, g_pc, g_tall, g_made, g_forks, g_bits, d_ops, d_args, rc, fr, cm, ds, d_stack, d_locals, d_fields)) :
    ∀ d i rc cm, i + d = 1089 → (∀ s, s < i → rc s = 0 ∧ cm s = 0) → wY_judge_2 post g_greatest g_poolSize g_count g_doing g_pc g_tall g_made g_forks g_bits (d + 1) (nI i) d_ops d_args (rc) d_fresh (cm) d_dist d_stack d_locals d_fields := by
  intro d
  induction d with
  | zero =>
    intro i rc cm hi h
    have e : i = 1089 := by omega
    subst e
    exact br_t (by decide) ⟨17, my_judge31 W hO hG hmh hc h H 16 0 _ (by omega) (fun p hp => by omega)⟩
  | succ d ih =>
    intro i rc cm hi h
    have hin := vp_in_nI (n := i) (N := 1089) (by omega) (by decide)
    refine br_f (nI_ge (b := 1089) (by omega) (by decide)) ⟨hin, nm_e ⟨hin, nm_e (nm_r (nI_1 i) ?_)⟩⟩
    rw [nI_clamp (by omega)]
    refine ih (i + 1) _ _ (by omega) (fun s hs => ?_)
    by_cases e : s = i
    · subst e; rw [pk_us, pk_us]; exact ⟨rfl, rfl⟩
    · rw [pk_un e, pk_un e]; exact h s (by omega)
theorem my_judge {post : SY → Prop} (W : pj_PG n mh O G) (hO : d_ops = pj_nF O) (hG : d_args = G) (hmh : g_greatest = nI mh) (hc : g_count = nI n)
    (H : ∀ rc fr cm ds, pj_CY n mh O G rc ds → post (g_greatest, g_poolSize, g_count, g_doing, g_pc, g_tall, g_made, g_forks, g_bits, d_ops, d_args, rc, fr, cm, ds, d_stack, d_locals, d_fields)) : wpY_judge post (g_greatest, g_poolSize, g_count, g_doing, g_pc, g_tall, g_made, g_forks, g_bits, d_ops, d_args, d_reached, d_fresh, d_coming, d_dist, d_stack, d_locals, d_fields) :=
  ⟨1090, my_judge2 W hO hG hmh hc H 1089 0 _ _ (by omega) (fun s hs => by omega)⟩
end
end
section
/-! the reference's questions -/
def pj_bI (b : Bool) : Int32 := if b then 1 else 0
theorem pj_pp0 : ∀ v, v < 121 → ∀ k, k < 4 → k < pj_hg v → 0 < pj_pp k v := by decide +kernel
theorem pj_flz {n mh o p : Nat} {g : Int32} {s : Nat} : pj_fl n mh o p g s < 13 := by
  unfold pj_fl pj_sk
  (repeat' split) <;> omega
theorem pj_nz : ∀ f, f < 13 → (∀ b, b < 32 → bt (nI f) b = false) → f = 0 := by decide +kernel
section
variable {g_greatest g_poolSize g_count g_doing g_pc g_tall g_made g_forks g_bits : Int32} {d_ops d_args d_reached d_fresh d_coming d_dist d_stack d_locals d_fields : Nat → Int32} {n mh : Nat} {O : Nat → Nat} {G : Nat → Int32}
theorem my_f235 {post : Int32 → Prop} (k f e : Bool) (H : post (nI ((if k then 4 else 0) + (if f || e then 8 else 0)))) : wY_faultOf_235 post (pj_bI k) (pj_bI f) (pj_bI e) g_greatest g_poolSize g_count g_doing g_pc g_tall g_made g_forks g_bits d_ops d_args d_reached d_fresh d_coming d_dist d_stack d_locals d_fields := by
  cases k <;> cases f <;> cases e <;> ((repeat (first | refine br_t (by decide) ?_ | refine br_f (by decide) ?_)); exact H)
theorem my_f204 {post : Int32 → Prop} {p o : Nat} (hn : n ≤ 16) (hp : p < n) (ho : o ≤ 13) (hc : g_count = nI n) (k f : Bool) (H : post (nI ((if k then 4 else 0) + (if f || decide (o ≠ 10 ∧ o ≠ 13 ∧ n ≤ p + 1) then 8 else 0)))) : wY_faultOf_204 post (nI p) (nI o) (pj_bI k) (pj_bI f) g_greatest g_poolSize g_count g_doing g_pc g_tall g_made g_forks g_bits d_ops d_args d_reached d_fresh d_coming d_dist d_stack d_locals d_fields := by
  have no : ¬ (o ≠ 10 ∧ o ≠ 13 ∧ n ≤ p + 1) → wY_faultOf_234 post (pj_bI k) (pj_bI f) g_greatest g_poolSize g_count g_doing g_pc g_tall g_made g_forks g_bits d_ops d_args d_reached d_fresh d_coming d_dist d_stack d_locals d_fields := fun h => by
    rw [decide_eq_false h] at H
    exact my_f235 k f false H
  refine pk_eq o 10 (fun h => no (by omega)) (fun h10 => pk_eq o 13 (fun h => no (by omega)) (fun h13 => ?_))
  rw [nI_1]
  refine pk_lt (p + 1) n (fun h => no (by omega)) (fun h => ?_) rfl hc
  rw [decide_eq_true ⟨h10, h13, h⟩] at H
  exact my_f235 k f true H
theorem my_f161 {post : Int32 → Prop} {p o : Nat} (hn : n ≤ 16) (hp : p < n) (ho : o ≤ 13) (hc : g_count = nI n) (k : Bool) (H : post (nI ((if k then 4 else 0) + (if pj_lv n o p (d_args p) then 8 else 0)))) : wY_faultOf_161 post (nI p) (nI o) (pj_bI k) g_greatest g_poolSize g_count g_doing g_pc g_tall g_made g_forks g_bits d_ops d_args d_reached d_fresh d_coming d_dist d_stack d_locals d_fields := by
  have hin := vp_in_nI (n := p) (N := 16) (by omega) (by decide)
  have ep : (nI p).toNatClampNeg = p := nI_clamp (by omega)
  have key : ∀ f : Bool, (f = true ↔ (o = 10 ∨ o = 11) ∧ (d_args p < 0 ∨ nI n ≤ d_args p)) → wY_faultOf_204 post (nI p) (nI o) (pj_bI k) (pj_bI f) g_greatest g_poolSize g_count g_doing g_pc g_tall g_made g_forks g_bits d_ops d_args d_reached d_fresh d_coming d_dist d_stack d_locals d_fields := fun f hf => by
    refine my_f204 hn hp ho hc k f ?_
    have e : (f || decide (o ≠ 10 ∧ o ≠ 13 ∧ n ≤ p + 1)) = pj_lv n o p (d_args p) := by
      unfold pj_lv
      rw [Bool.eq_iff_iff, Bool.or_eq_true, hf, decide_eq_true_iff, decide_eq_true_iff]
    rw [e]
    exact H
  have f177 : (o = 10 ∨ o = 11) → wY_faultOf_177 post (nI p) (nI o) (pj_bI k) g_greatest g_poolSize g_count g_doing g_pc g_tall g_made g_forks g_bits d_ops d_args d_reached d_fresh d_coming d_dist d_stack d_locals d_fields := fun h => by
    refine ⟨hin, ?_⟩
    rw [ep]
    refine br_c (fun h0 => key true ⟨fun _ => ⟨h, Or.inl h0⟩, fun _ => rfl⟩) (fun h0 => ⟨hin, ?_⟩)
    refine br_c (fun h1 => key false ⟨fun z => absurd z (by decide), fun z => ?_⟩) (fun h1 => key true ⟨fun _ => ⟨h, Or.inr ?_⟩, fun _ => rfl⟩)
    · rw [hc] at h1
      exact z.2.elim (fun z => absurd z h0) (fun z => absurd h1 (Int32.not_lt.mpr z))
    · rw [hc] at h1
      exact Int32.not_lt.mp h1
  refine pk_eq o 10 (fun h => f177 (Or.inl h)) (fun h10 => pk_eq o 11 (fun h => f177 (Or.inr h)) (fun h11 => ?_))
  exact key false ⟨fun z => absurd z (by decide), fun z => z.1.elim (fun z => absurd z h10) (fun z => absurd z h11)⟩
theorem my_f76 {post : Int32 → Prop} {p o a b : Nat} (ho : o ≤ 13) (ha : a < 3) (hb : b < 3) (K : wY_faultOf_161 post (nI p) (nI o) (pj_bI (pj_kb o a b)) g_greatest g_poolSize g_count g_doing g_pc g_tall g_made g_forks g_bits d_ops d_args d_reached d_fresh d_coming d_dist d_stack d_locals d_fields) : wY_faultOf_76 post (nI p) (nI o) (nI a) (nI b) g_greatest g_poolSize g_count g_doing g_pc g_tall g_made g_forks g_bits d_ops d_args d_reached d_fresh d_coming d_dist d_stack d_locals d_fields := by
  have bad : ((o = 5 ∧ (a ≠ 0 ∨ b ≠ 0)) ∨ (o = 6 ∧ a ≠ 1) ∨ (o = 7 ∧ (a ≠ 0 ∨ b ≠ 1)) ∨ (o = 12 ∧ (a ≠ 1 ∨ b ≠ 1)) ∨ (o = 13 ∧ a ≠ 0)) → wY_faultOf_156 post (nI p) (nI o) g_greatest g_poolSize g_count g_doing g_pc g_tall g_made g_forks g_bits d_ops d_args d_reached d_fresh d_coming d_dist d_stack d_locals d_fields := fun h => by
    rw [show pj_kb o a b = true from decide_eq_true h] at K
    exact K
  have good : ¬ ((o = 5 ∧ (a ≠ 0 ∨ b ≠ 0)) ∨ (o = 6 ∧ a ≠ 1) ∨ (o = 7 ∧ (a ≠ 0 ∨ b ≠ 1)) ∨ (o = 12 ∧ (a ≠ 1 ∨ b ≠ 1)) ∨ (o = 13 ∧ a ≠ 0)) → wY_faultOf_160 post (nI p) (nI o) g_greatest g_poolSize g_count g_doing g_pc g_tall g_made g_forks g_bits d_ops d_args d_reached d_fresh d_coming d_dist d_stack d_locals d_fields := fun h => by
    rw [show pj_kb o a b = false from decide_eq_false h] at K
    exact K
  have c144 : (o = 5 → a = 0 ∧ b = 0) → (o = 6 → a = 1) → (o = 7 → a = 0 ∧ b = 1) → (o = 12 → a = 1 ∧ b = 1) → wY_faultOf_144 post (nI p) (nI o) (nI a) g_greatest g_poolSize g_count g_doing g_pc g_tall g_made g_forks g_bits d_ops d_args d_reached d_fresh d_coming d_dist d_stack d_locals d_fields := fun h5 h6 h7 h12 =>
    pk_eq o 13 (fun h => pk_eq a 0 (fun h' => good (by omega)) (fun h' => bad (by omega))) (fun h => good (by omega))
  have c125 : (o = 5 → a = 0 ∧ b = 0) → (o = 6 → a = 1) → (o = 7 → a = 0 ∧ b = 1) → wY_faultOf_125 post (nI p) (nI o) (nI a) (nI b) g_greatest g_poolSize g_count g_doing g_pc g_tall g_made g_forks g_bits d_ops d_args d_reached d_fresh d_coming d_dist d_stack d_locals d_fields := fun h5 h6 h7 =>
    pk_eq o 12 (fun h => pk_eq a 1 (fun h' => pk_eq b 1 (fun h'' => c144 h5 h6 h7 (fun _ => ⟨h', h''⟩)) (fun h'' => bad (by omega))) (fun h' => bad (by omega))) (fun h => c144 h5 h6 h7 (fun z => absurd z h))
  have c107 : (o = 5 → a = 0 ∧ b = 0) → (o = 6 → a = 1) → wY_faultOf_107 post (nI p) (nI o) (nI a) (nI b) g_greatest g_poolSize g_count g_doing g_pc g_tall g_made g_forks g_bits d_ops d_args d_reached d_fresh d_coming d_dist d_stack d_locals d_fields := fun h5 h6 =>
    pk_eq o 7 (fun h => pk_eq a 0 (fun h' => pk_eq b 1 (fun h'' => c125 h5 h6 (fun _ => ⟨h', h''⟩)) (fun h'' => bad (by omega))) (fun h' => bad (by omega))) (fun h => c125 h5 h6 (fun z => absurd z h))
  have c94 : (o = 5 → a = 0 ∧ b = 0) → wY_faultOf_94 post (nI p) (nI o) (nI a) (nI b) g_greatest g_poolSize g_count g_doing g_pc g_tall g_made g_forks g_bits d_ops d_args d_reached d_fresh d_coming d_dist d_stack d_locals d_fields := fun h5 =>
    pk_eq o 6 (fun h => pk_eq a 1 (fun h' => c107 h5 (fun _ => h')) (fun h' => bad (by omega))) (fun h => c107 h5 (fun z => absurd z h))
  exact pk_eq o 5 (fun h => pk_eq a 0 (fun h' => pk_eq b 0 (fun h'' => c94 (fun _ => ⟨h', h''⟩)) (fun h'' => bad (by omega))) (fun h' => bad (by omega))) (fun h => c94 (fun z => absurd z h))
theorem my_faultOf {post : Int32 → Prop} {p s : Nat} (W : pj_PG n mh O G) (hp : p < n) (hs : s < 1089) (hO : d_ops = pj_nF O) (hG : d_args = G) (hmh : g_greatest = nI mh) (hc : g_count = nI n)
    (H : post (nI (pj_fl n mh (O p) p (G p) s))) : wpY_faultOf post (g_greatest, g_poolSize, g_count, g_doing, g_pc, g_tall, g_made, g_forks, g_bits, d_ops, d_args, d_reached, d_fresh, d_coming, d_dist, d_stack, d_locals, d_fields) (nI s) (nI p) := by
  subst hG
  obtain ⟨hn, m1, m4, hO13, hA⟩ := W
  have ho := hO13 p hp
  have hin := vp_in_nI (n := p) (N := 16) (by omega) (by decide)
  have e0 : d_ops (nI p).toNatClampNeg = nI (O p) := by rw [nI_clamp (by omega), hO]; rfl
  have e9 : nI s / 9 = nI (s / 9) := by rw [pj_n9, pk_div (by omega) (by omega) (by omega)]
  unfold wpY_faultOf
  refine my_stuck (by omega) hs hO ho hmh m4 ?_
  refine pk_eq (pj_sk mh (O p) s) 0 (fun hk => ⟨hin, nm_r e0 ⟨by decide, nm_r e9 ?_⟩⟩) (fun hk => ?_) rfl rfl (by unfold pj_sk; (repeat' split) <;> omega)
  · have H' : post (nI ((if pj_kb (O p) (pj_tp (s / 9)) (pj_tp (pj_rs (s / 9))) then 4 else 0) + (if pj_lv n (O p) p (d_args p) then 8 else 0))) := by
      unfold pj_fl at H
      rw [if_neg (by omega)] at H
      exact H
    clear H
    have hv : s / 9 < 121 := by omega
    generalize s / 9 = v at *
    have hr := pj_rs121 hv
    have k76 : wY_faultOf_76 post (nI p) (nI (O p)) (nI (pj_tp v)) (nI (pj_tp (pj_rs v))) g_greatest g_poolSize g_count g_doing g_pc g_tall g_made g_forks g_bits d_ops d_args d_reached d_fresh d_coming d_dist d_stack d_locals d_fields := my_f76 ho (pj_tp3 v) (pj_tp3 (pj_rs v)) (my_f161 hn hp ho hc _ H')
    have k59 : wY_faultOf_59 post (nI p) (nI (O p)) (nI (pj_tp v)) (nI (pj_rs v)) g_greatest g_poolSize g_count g_doing g_pc g_tall g_made g_forks g_bits d_ops d_args d_reached d_fresh d_coming d_dist d_stack d_locals d_fields := by
      by_cases c : pj_rs v = 0
      · refine br_t (by rw [c]; decide) ?_
        have e : pj_tp (pj_rs v) = 0 := by rw [c]; rfl
        rw [e] at k76
        exact k76
      · refine br_f (nI_nle (by omega) (by omega)) ⟨by decide, ?_⟩
        rw [pj_tpI (by omega) (by omega)]
        exact k76
    have k42 : wY_faultOf_42 post (nI p) (nI (O p)) (nI v) (nI (pj_tp v)) g_greatest g_poolSize g_count g_doing g_pc g_tall g_made g_forks g_bits d_ops d_args d_reached d_fresh d_coming d_dist d_stack d_locals d_fields := by
      by_cases c : v = 0
      · refine br_t (by rw [c]; decide) ?_
        have e : pj_rs v = 0 := by rw [c]; rfl
        rw [e] at k59
        exact k59
      · refine br_f (nI_nle (by omega) (by omega)) ⟨by decide, ?_⟩
        rw [pj_rsI (by omega) (by omega)]
        exact k59
    by_cases c : v = 0
    · refine br_t (by rw [c]; decide) ?_
      have e : pj_tp v = 0 := by rw [c]; rfl
      rw [e] at k42
      exact k42
    · refine br_f (nI_nle (by omega) (by omega)) ⟨by decide, ?_⟩
      rw [pj_tpI (by omega) (by omega)]
      exact k42
  · unfold pj_fl at H
    rw [if_pos hk] at H
    exact H
theorem my_faults {post : Int32 → Prop} {p : Nat} (W : pj_PG n mh O G) (hp : p < n) (hO : d_ops = pj_nF O) (hG : d_args = G) (hmh : g_greatest = nI mh) (hc : g_count = nI n) (C : pj_CY n mh O G d_reached d_dist)
    (H : ∀ r, (∀ b, b < 32 → (bt r b = true ↔ ∃ s, pj_Rc n mh O G p s ∧ bt (nI (pj_fl n mh (O p) p (G p) s)) b = true)) → post r) : wpY_faults post (g_greatest, g_poolSize, g_count, g_doing, g_pc, g_tall, g_made, g_forks, g_bits, d_ops, d_args, d_reached, d_fresh, d_coming, d_dist, d_stack, d_locals, d_fields) (nI p) := by
  have hn := W.1
  have L : ∀ d i x2, i + d = 1089 → (∀ b, b < 32 → (bt x2 b = true ↔ ∃ s, s < i ∧ pj_Rc n mh O G p s ∧ bt (nI (pj_fl n mh (O p) p (G p) s)) b = true)) → wY_faults_16 post (nI p) g_greatest g_poolSize g_count g_doing g_pc g_tall g_made g_forks g_bits d_ops d_args d_reached d_fresh d_coming d_dist d_stack d_locals d_fields (d + 1) x2 (nI i) := by
    intro d
    induction d with
    | zero =>
      intro i x2 hi hx
      have e : i = 1089 := by omega
      subst e
      exact br_t (by decide) (H x2 (fun b hb => (hx b hb).trans ⟨fun ⟨s, _, h⟩ => ⟨s, h⟩, fun ⟨s, h⟩ => ⟨s, (pj_Rlt W h.1).2, h⟩⟩))
    | succ d ih =>
      intro i x2 hi hx
      refine br_f (nI_ge (b := 1089) (by omega) (by decide)) ⟨vp_in_nI (by omega) (by decide), ?_⟩
      rw [nI_clamp (by omega)]
      have hR := C.1 i p (by omega) (by omega)
      by_cases c : bt (d_reached i) p = true
      · refine br_t ((pj_bit _ (by omega)).mpr c) (my_faultOf W hp (by omega) hO hG hmh hc (nm_e (nm_r (nI_1 i) (ih (i + 1) _ (by omega) (fun b hb => ?_)))))
        rw [b_or, Bool.or_eq_true, hx b hb]
        refine Iff.trans (or_congr Iff.rfl ?_) (pj_exs (fun i _ => Iff.rfl)).symm
        exact ⟨fun z => ⟨hR.mp c, z⟩, fun z => z.2⟩
      · refine br_f (fun z => c ((pj_bit _ (by omega)).mp z)) (nm_r (nI_1 i) (ih (i + 1) x2 (by omega) (fun b hb => ?_)))
        rw [hx b hb]
        refine Iff.trans ?_ (pj_exs (fun i _ => Iff.rfl)).symm
        exact ⟨Or.inl, fun z => z.elim id (fun z => absurd (hR.mpr z.1) c)⟩
  refine br_f (nI_pos (by omega)) (br_f (by rw [hc]; exact nI_ge hp (by omega)) ⟨1090, L 1089 0 0 (by omega) (fun b hb => ?_)⟩)
  rw [b_0]
  exact ⟨fun z => absurd z (by decide), fun ⟨s, z, _⟩ => by omega⟩
theorem my_heights {post : Int32 → Prop} {p : Nat} (W : pj_PG n mh O G) (hp : p < n) (hc : g_count = nI n) (C : pj_CY n mh O G d_reached d_dist)
    (H : ∀ r, (∀ b, b < 32 → (bt r b = true ↔ ∃ s, pj_Rc n mh O G p s ∧ pj_hg (s / 9) = b)) → post r) : wpY_heights post (g_greatest, g_poolSize, g_count, g_doing, g_pc, g_tall, g_made, g_forks, g_bits, d_ops, d_args, d_reached, d_fresh, d_coming, d_dist, d_stack, d_locals, d_fields) (nI p) := by
  have hn := W.1
  have L : ∀ d i x2, i + d = 1089 → (∀ b, b < 32 → (bt x2 b = true ↔ ∃ s, s < i ∧ pj_Rc n mh O G p s ∧ pj_hg (s / 9) = b)) → wY_heights_16 post (nI p) g_greatest g_poolSize g_count g_doing g_pc g_tall g_made g_forks g_bits d_ops d_args d_reached d_fresh d_coming d_dist d_stack d_locals d_fields (d + 1) x2 (nI i) := by
    intro d
    induction d with
    | zero =>
      intro i x2 hi hx
      have e : i = 1089 := by omega
      subst e
      exact br_t (by decide) (H x2 (fun b hb => (hx b hb).trans ⟨fun ⟨s, _, h⟩ => ⟨s, h⟩, fun ⟨s, h⟩ => ⟨s, (pj_Rlt W h.1).2, h⟩⟩))
    | succ d ih =>
      intro i x2 hi hx
      refine br_f (nI_ge (b := 1089) (by omega) (by decide)) ⟨vp_in_nI (by omega) (by decide), ?_⟩
      rw [nI_clamp (by omega)]
      have hR := C.1 i p (by omega) (by omega)
      have h4 := pj_hgle (i / 9)
      by_cases c : bt (d_reached i) p = true
      · refine br_t ((pj_bit _ (by omega)).mpr c) ⟨by decide, ?_⟩
        rw [pj_n9, pk_div (by omega) (by omega) (by omega)]
        refine my_heightOf (by omega) (nm_e (nm_r (nI_1 i) (ih (i + 1) _ (by omega) (fun b hb => ?_))))
        rw [b_or, Bool.or_eq_true, hx b hb, pj_bt1 _ (by omega) b hb, decide_eq_true_iff]
        refine Iff.trans (or_congr Iff.rfl ?_) (pj_exs (fun i _ => Iff.rfl)).symm
        exact ⟨fun z => ⟨hR.mp c, z⟩, fun z => z.2⟩
      · refine br_f (fun z => c ((pj_bit _ (by omega)).mp z)) (nm_r (nI_1 i) (ih (i + 1) x2 (by omega) (fun b hb => ?_)))
        rw [hx b hb]
        refine Iff.trans ?_ (pj_exs (fun i _ => Iff.rfl)).symm
        exact ⟨Or.inl, fun z => z.elim id (fun z => absurd (hR.mpr z.1) c)⟩
  refine br_f (nI_pos (by omega)) (br_f (by rw [hc]; exact nI_ge hp (by omega)) ⟨1090, L 1089 0 0 (by omega) (fun b hb => ?_)⟩)
  rw [b_0]
  exact ⟨fun z => absurd z (by decide), fun ⟨s, z, _⟩ => by omega⟩
theorem my_digitL {post : Int32 → Prop} {v pl : Nat} (hv : v < 121) (hpl : pl < pj_hg v) (H : post (nI (pj_dg v pl))) : ∀ d k, k + d = pj_hg v - 1 - pl → wY_digitAt_31 post (nI pl) g_greatest g_poolSize g_count g_doing g_pc g_tall g_made g_forks g_bits d_ops d_args d_reached d_fresh d_coming d_dist d_stack d_locals d_fields (d + 1) (nI (pj_pp k v)) (nI (pj_hg v - 1 - k)) := by
  have h4 := pj_hgle v
  intro d
  induction d with
  | zero =>
    intro k hk
    have hpos := pj_pp0 v hv k (by omega) (by omega)
    have hle := pj_pplt k v
    refine br_t (nI_le (by omega) (by omega)) (br_f (nI_nle hpos (by omega)) ⟨by decide, ?_⟩)
    rw [pj_tpI (by omega) hpos]
    have e : pj_tp (pj_pp k v) = pj_dg v pl := by unfold pj_tp pj_dg; rw [← hk]; rfl
    rw [e]
    exact H
  | succ d ih =>
    intro k hk
    have hpos := pj_pp0 v hv k (by omega) (by omega)
    have hle := pj_pplt k v
    refine br_f (nI_ge (by omega) (by omega)) (br_f (nI_nle hpos (by omega)) ⟨by decide, ?_⟩)
    refine nm_r (e' := nI (pj_pp (k + 1) v)) ?_ (nm_r (e' := nI (pj_hg v - 1 - (k + 1))) ?_ (ih (k + 1) (by omega)))
    · rw [pj_rsI (by omega) hpos, pj_pps]
      rfl
    · have e : pj_hg v - 1 - k = (pj_hg v - 1 - (k + 1)) + 1 := by omega
      rw [e, pk_m1]
theorem my_digitAt {post : Int32 → Prop} {s pl : Nat} {h : Int32} (hs : s < 1089) (hh : nI (pj_hg (s / 9)) = h) (hpl : pl < pj_hg (s / 9)) (H : post (nI (pj_dg (s / 9) pl))) : wpY_digitAt post (g_greatest, g_poolSize, g_count, g_doing, g_pc, g_tall, g_made, g_forks, g_bits, d_ops, d_args, d_reached, d_fresh, d_coming, d_dist, d_stack, d_locals, d_fields) (nI s) h (nI pl) := by
  have h4 := pj_hgle (s / 9)
  subst hh
  refine pk_eq pl 4 (fun z => by omega) (fun _ => pk_eq pl 5 (fun z => by omega) (fun _ => ⟨by decide, ?_⟩))
  refine nm_r (e' := nI (s / 9)) (by rw [pj_n9, pk_div (by omega) (by omega) (by omega)]) (nm_r (e' := nI (pj_hg (s / 9) - 1 - 0)) (by rw [pj_n1, pk_sub (by omega)]; rfl) ⟨_, my_digitL (by omega) hpl H (pj_hg (s / 9) - 1 - pl) 0 (by omega)⟩)
theorem my_kindsL {post : Int32 → Prop} {p : Nat} {h pl : Int32} {dgt : Nat → Nat} (W : pj_PG n mh O G) (hp : p < n) (C : pj_CY n mh O G d_reached d_dist) (hd3 : ∀ s, dgt s < 3)
    (hd : ∀ s, s < 1089 → nI (pj_hg (s / 9)) = h → ∀ post : Int32 → Prop, post (nI (dgt s)) → wpY_digitAt post (g_greatest, g_poolSize, g_count, g_doing, g_pc, g_tall, g_made, g_forks, g_bits, d_ops, d_args, d_reached, d_fresh, d_coming, d_dist, d_stack, d_locals, d_fields) (nI s) h pl)
    (H : ∀ r, (∀ b, b < 32 → (bt r b = true ↔ ∃ s, pj_Rc n mh O G p s ∧ nI (pj_hg (s / 9)) = h ∧ dgt s = b)) → post r) : ∃ m : Nat, wY_kinds_37 post (nI p) h pl g_greatest g_poolSize g_count g_doing g_pc g_tall g_made g_forks g_bits d_ops d_args d_reached d_fresh d_coming d_dist d_stack d_locals d_fields m 0 0 := by
  have hn := W.1
  have L : ∀ d i x2, i + d = 1089 → (∀ b, b < 32 → (bt x2 b = true ↔ ∃ s, s < i ∧ pj_Rc n mh O G p s ∧ nI (pj_hg (s / 9)) = h ∧ dgt s = b)) → wY_kinds_37 post (nI p) h pl g_greatest g_poolSize g_count g_doing g_pc g_tall g_made g_forks g_bits d_ops d_args d_reached d_fresh d_coming d_dist d_stack d_locals d_fields (d + 1) x2 (nI i) := by
    intro d
    induction d with
    | zero =>
      intro i x2 hi hx
      have e : i = 1089 := by omega
      subst e
      exact br_t (by decide) (H x2 (fun b hb => (hx b hb).trans ⟨fun ⟨s, _, h⟩ => ⟨s, h⟩, fun ⟨s, h⟩ => ⟨s, (pj_Rlt W h.1).2, h⟩⟩))
    | succ d ih =>
      intro i x2 hi hx
      refine br_f (nI_ge (b := 1089) (by omega) (by decide)) ⟨vp_in_nI (by omega) (by decide), ?_⟩
      rw [nI_clamp (by omega)]
      have hR := C.1 i p (by omega) (by omega)
      have h4 := pj_hgle (i / 9)
      by_cases c : bt (d_reached i) p = true
      · refine br_t ((pj_bit _ (by omega)).mpr c) ⟨by decide, ?_⟩
        rw [pj_n9, pk_div (by omega) (by omega) (by omega)]
        refine my_heightOf (by omega) (br_c (fun hh => ?_) (fun hh => ?_))
        · refine hd i (by omega) hh _ (nm_e (nm_r (nI_1 i) (ih (i + 1) _ (by omega) (fun b hb => ?_))))
          rw [b_or, Bool.or_eq_true, hx b hb, pj_bt1 _ (by have := hd3 i; omega) b hb, decide_eq_true_iff]
          refine Iff.trans (or_congr Iff.rfl ?_) (pj_exs (fun i _ => Iff.rfl)).symm
          exact ⟨fun z => ⟨hR.mp c, hh, z⟩, fun z => z.2.2⟩
        · refine nm_r (nI_1 i) (ih (i + 1) x2 (by omega) (fun b hb => ?_))
          rw [hx b hb]
          refine Iff.trans ?_ (pj_exs (fun i _ => Iff.rfl)).symm
          exact ⟨Or.inl, fun z => z.elim id (fun z => absurd z.2.1 hh)⟩
      · refine br_f (fun z => c ((pj_bit _ (by omega)).mp z)) (nm_r (nI_1 i) (ih (i + 1) x2 (by omega) (fun b hb => ?_)))
        rw [hx b hb]
        refine Iff.trans ?_ (pj_exs (fun i _ => Iff.rfl)).symm
        exact ⟨Or.inl, fun z => z.elim id (fun z => absurd (hR.mpr z.1) c)⟩
  refine ⟨1090, L 1089 0 0 (by omega) (fun b hb => ?_)⟩
  rw [b_0]
  exact ⟨fun z => absurd z (by decide), fun ⟨s, z, _⟩ => by omega⟩
theorem my_verdict {post : Int32 → Prop} (W : pj_PG n mh O G) (hO : d_ops = pj_nF O) (hG : d_args = G) (hmh : g_greatest = nI mh) (hc : g_count = nI n) (C : pj_CY n mh O G d_reached d_dist)
    (H2 : n = 0 → post 2) (H0 : 0 < n → (∀ p s, pj_Rc n mh O G p s → pj_fl n mh (O p) p (G p) s = 0) → post 0) (H1 : 0 < n → ¬ (∀ p s, pj_Rc n mh O G p s → pj_fl n mh (O p) p (G p) s = 0) → post 1) : wpY_verdict post (g_greatest, g_poolSize, g_count, g_doing, g_pc, g_tall, g_made, g_forks, g_bits, d_ops, d_args, d_reached, d_fresh, d_coming, d_dist, d_stack, d_locals, d_fields) := by
  have hn := W.1
  refine pk_eq n 0 H2 (fun h0 => ?_) hc rfl
  have L : ∀ d i x1, i + d = n → (∀ b, b < 32 → (bt x1 b = true ↔ ∃ p, p < i ∧ ∃ s, pj_Rc n mh O G p s ∧ bt (nI (pj_fl n mh (O p) p (G p) s)) b = true)) → wY_verdict_13 post g_greatest g_poolSize g_count g_doing g_pc g_tall g_made g_forks g_bits d_ops d_args d_reached d_fresh d_coming d_dist d_stack d_locals d_fields (d + 1) x1 (nI i) := by
    intro d
    induction d with
    | zero =>
      intro i x1 hi hx
      have e : i = n := by omega
      subst e
      refine br_t (by rw [hc]; exact nI_le (Nat.le_refl _) (by omega)) ?_
      by_cases c : x1 = 0
      · refine br_t c (H0 (by omega) (fun p s hs => pj_nz _ pj_flz (fun b hb => ?_)))
        cases hbt : bt (nI (pj_fl i mh (O p) p (G p) s)) b
        · rfl
        · have := (hx b hb).mpr ⟨p, (pj_Rlt W hs).1, s, hs, hbt⟩
          rw [c, b_0] at this
          exact absurd this (by decide)
      · refine br_f c (H1 (by omega) (fun z => c ?_))
        apply b_ext
        intro b hb
        rw [b_0]
        cases hbt : bt x1 b
        · rfl
        · obtain ⟨p, _, s, h1, h2⟩ := (hx b hb).mp hbt
          rw [z p s h1] at h2
          have : bt 0 b = true := h2
          rw [b_0] at this
          exact this.symm
    | succ d ih =>
      intro i x1 hi hx
      refine br_f (by rw [hc]; exact nI_ge (by omega) (by omega)) ?_
      refine my_faults W (by omega) hO hG hmh hc C (fun r hr => nm_e (nm_r (nI_1 i) (ih (i + 1) _ (by omega) (fun b hb => ?_))))
      rw [b_or, Bool.or_eq_true, hx b hb, hr b hb]
      exact (pj_exs (A := fun p => ∃ s, pj_Rc n mh O G p s ∧ bt (nI (pj_fl n mh (O p) p (G p) s)) b = true) (fun i _ => Iff.rfl)).symm
  refine ⟨n + 1, L n 0 0 (by omega) (fun b hb => ?_)⟩
  rw [b_0]
  exact ⟨fun z => absurd z (by decide), fun ⟨s, z, _⟩ => by omega⟩
end
end
section
/-! the relation, and the questions -/
def pj_Safe (n mh : Nat) (O : Nat → Nat) (G : Nat → Int32) : Prop := ∀ p s, pj_Rc n mh O G p s → pj_fl n mh (O p) p (G p) s = 0
def pj_TV (v h m : Nat) (sta : Nat → Int32) : Prop := h = pj_hg v ∧ ∀ i, i < h → pj_dg v i = 1 → ∃ j, j < m ∧ sta i = nI j
def pj_TL (a b m : Nat) (lo : Nat → Int32) : Prop := (a = 1 → ∃ j, j < m ∧ lo 0 = nI j) ∧ (b = 1 → ∃ j, j < m ∧ lo 1 = nI j)
/-- a running machine stands in a reached situation, and its cells are of its kinds -/
def pj_T (n mh : Nat) (O : Nat → Nat) (G : Nat → Int32) (p h m : Nat) (sta lo : Nat → Int32) : Prop :=
  pj_Safe n mh O G ∧ ∃ s, pj_Rc n mh O G p s ∧ pj_TV (s / 9) h m sta ∧ pj_TL (s / 3 % 3) (s % 3) m lo
def pj_M (n mh : Nat) (O : Nat → Nat) (G : Nat → Int32) (pl : Nat) (st po he re fo : Int32) (sta lo : Nat → Int32) (pc ta ma yf : Int32) (yl : Nat → Int32) : Prop :=
  (st = 0 ∧ po = 0 ∧ he = 0 ∧ re = 0 ∧ lo 0 = 0 ∧ lo 1 = 0) ∨
  (st ≠ 0 ∧ ∃ p h m : Nat, po = nI p ∧ pc = nI p ∧ he = nI h ∧ ta = nI h ∧ re = nI m ∧ ma = nI m ∧ fo = yf &&& 31 ∧ lo 0 = yl 0 ∧ lo 1 = yl 1 ∧ p < 16 ∧ h ≤ 4 ∧ m ≤ pl ∧ (st = 1 → pj_T n mh O G p h m sta lo))
def i_Rel (_ : Nat) (u : SX) (v : SY) : Prop := ∃ (n mh pl : Nat) (O : Nat → Nat) (G : Nat → Int32) (fy fq kh st po he re ch fo : Int32) (fb hb kb ls aq aqs ar ks kl sta lo fie : Nat → Int32) (pc ta ma yf : Int32) (rc fr cm ds yl : Nat → Int32),
  u = (nI mh, nI pl, nI n, fy, fq, kh, st, po, he, re, ch, fo, pj_nF O, G, fb, hb, kb, ls, aq, aqs, ar, ks, kl, sta, lo, fie) ∧ v = (nI mh, nI pl, nI n, st, pc, ta, ma, yf, ch, pj_nF O, G, rc, fr, cm, ds, sta, yl, fie) ∧ pj_PG n mh O G ∧ 1 ≤ pl ∧ pl ≤ 8 ∧ pj_SQ fq aq aqs ar ∧ (0 < n → pj_CX n mh O G fy fb hb kb ls) ∧ pj_CY n mh O G rc ds ∧ pj_M n mh O G pl st po he re fo sta lo pc ta ma yf yl
theorem i_up {k : Nat} {u : SX} {v : SY} (h : i_Rel k u v) : i_Rel (k + 4) u v := h
theorem i_vc_length {k : Nat} {u : SX} {v : SY} (I : i_Rel k u v) (hk : k + 4 ≤ 2050) : wpX_length (fun r => wpY_length (fun r' => r' = r ∧ i_Rel (k + 4) u v) v) u := by
  have I' := i_up I
  obtain ⟨n, mh, pl, O, G, fy, fq, kh, st, po, he, re, ch, fo, fb, hb, kb, ls, aq, aqs, ar, ks, kl, sta, lo, fie, pc, ta, ma, yf, rc, fr, cm, ds, yl, rfl, rfl, W, p1, p8, S, CX, CY, M⟩ := I
  exact ⟨rfl, I'⟩
theorem i_vc_status {k : Nat} {u : SX} {v : SY} (I : i_Rel k u v) (hk : k + 4 ≤ 2050) : wpX_status (fun r => wpY_status (fun r' => r' = r ∧ i_Rel (k + 4) u v) v) u := by
  have I' := i_up I
  obtain ⟨n, mh, pl, O, G, fy, fq, kh, st, po, he, re, ch, fo, fb, hb, kb, ls, aq, aqs, ar, ks, kl, sta, lo, fie, pc, ta, ma, yf, rc, fr, cm, ds, yl, rfl, rfl, W, p1, p8, S, CX, CY, M⟩ := I
  exact ⟨rfl, I'⟩
theorem i_vc_position {k : Nat} {u : SX} {v : SY} (I : i_Rel k u v) (hk : k + 4 ≤ 2050) : wpX_position (fun r => wpY_position (fun r' => r' = r ∧ i_Rel (k + 4) u v) v) u := by
  have I' := i_up I
  obtain ⟨n, mh, pl, O, G, fy, fq, kh, st, po, he, re, ch, fo, fb, hb, kb, ls, aq, aqs, ar, ks, kl, sta, lo, fie, pc, ta, ma, yf, rc, fr, cm, ds, yl, rfl, rfl, W, p1, p8, S, CX, CY, M⟩ := I
  rcases M with ⟨e0, e1, _⟩ | ⟨h0, p, h, m, e1, e2, _⟩
  · exact br_t e0 ⟨e1.symm, I'⟩
  · exact br_f h0 ⟨e2.trans e1.symm, I'⟩
theorem i_vc_height {k : Nat} {u : SX} {v : SY} (I : i_Rel k u v) (hk : k + 4 ≤ 2050) : wpX_height (fun r => wpY_height (fun r' => r' = r ∧ i_Rel (k + 4) u v) v) u := by
  have I' := i_up I
  obtain ⟨n, mh, pl, O, G, fy, fq, kh, st, po, he, re, ch, fo, fb, hb, kb, ls, aq, aqs, ar, ks, kl, sta, lo, fie, pc, ta, ma, yf, rc, fr, cm, ds, yl, rfl, rfl, W, p1, p8, S, CX, CY, M⟩ := I
  rcases M with ⟨e0, _, e1, _⟩ | ⟨h0, p, h, m, _, _, e1, e2, _⟩
  · exact br_t e0 ⟨e1.symm, I'⟩
  · exact br_f h0 ⟨e2.trans e1.symm, I'⟩
theorem i_vc_records {k : Nat} {u : SX} {v : SY} (I : i_Rel k u v) (hk : k + 4 ≤ 2050) : wpX_records (fun r => wpY_records (fun r' => r' = r ∧ i_Rel (k + 4) u v) v) u := by
  have I' := i_up I
  obtain ⟨n, mh, pl, O, G, fy, fq, kh, st, po, he, re, ch, fo, fb, hb, kb, ls, aq, aqs, ar, ks, kl, sta, lo, fie, pc, ta, ma, yf, rc, fr, cm, ds, yl, rfl, rfl, W, p1, p8, S, CX, CY, M⟩ := I
  rcases M with ⟨e0, _, _, e1, _⟩ | ⟨h0, p, h, m, _, _, _, _, e1, e2, _⟩
  · exact br_t e0 ⟨e1.symm, I'⟩
  · exact br_f h0 ⟨e2.trans e1.symm, I'⟩
theorem i_vc_distance {k : Nat} {u : SX} {v : SY} (I : i_Rel k u v) (hk : k + 4 ≤ 2050) (v1 : Int32) : wpX_distance (fun r => wpY_distance (fun r' => r' = r ∧ i_Rel (k + 4) u v) v v1) u v1 := by
  have I' := i_up I
  obtain ⟨n, mh, pl, O, G, fy, fq, kh, st, po, he, re, ch, fo, fb, hb, kb, ls, aq, aqs, ar, ks, kl, sta, lo, fie, pc, ta, ma, yf, rc, fr, cm, ds, yl, rfl, rfl, W, p1, p8, S, CX, CY, M⟩ := I
  have hn := W.1
  unfold wpX_distance
  refine mx_isPos hn rfl (fun h => br_t rfl ?_) (fun j hj ej => br_f (by decide) ?_)
  · by_cases h0 : v1 < 0
    · exact br_t h0 ⟨rfl, I'⟩
    · exact br_f h0 (br_t (h.elim (fun z => absurd z h0) id) ⟨rfl, I'⟩)
  · subst ej
    have hin := vp_in_nI (n := j) (N := 16) (by omega) (by decide)
    refine ⟨hin, br_f (nI_pos (by omega)) (br_f (nI_ge hj (by omega)) ⟨hin, ?_, I'⟩)⟩
    rw [nI_clamp (by omega)]
    exact pj_DSu (CY.2 j (by omega)) ((CX (by omega)).2.2.2.1 j (by omega))
theorem i_vc_faults {k : Nat} {u : SX} {v : SY} (I : i_Rel k u v) (hk : k + 4 ≤ 2050) (v1 : Int32) : wpX_faults (fun r => wpY_faults (fun r' => r' = r ∧ i_Rel (k + 4) u v) v v1) u v1 := by
  have I' := i_up I
  obtain ⟨n, mh, pl, O, G, fy, fq, kh, st, po, he, re, ch, fo, fb, hb, kb, ls, aq, aqs, ar, ks, kl, sta, lo, fie, pc, ta, ma, yf, rc, fr, cm, ds, yl, rfl, rfl, W, p1, p8, S, CX, CY, M⟩ := I
  have hn := W.1
  unfold wpX_faults
  refine mx_isPos hn rfl (fun h => br_t rfl ?_) (fun j hj ej => br_f (by decide) ?_)
  · by_cases h0 : v1 < 0
    · exact br_t h0 ⟨rfl, I'⟩
    · exact br_f h0 (br_t (h.elim (fun z => absurd z h0) id) ⟨rfl, I'⟩)
  · subst ej
    refine ⟨vp_in_nI (by omega) (by decide), my_faults W hj rfl rfl rfl rfl CY (fun r hr => ⟨?_, I'⟩)⟩
    rw [nI_clamp (by omega)]
    apply b_ext
    intro b hb
    rw [Bool.eq_iff_iff, hr b hb]
    exact ((CX (by omega)).1 j (by omega) b hb).symm
theorem i_vc_heights {k : Nat} {u : SX} {v : SY} (I : i_Rel k u v) (hk : k + 4 ≤ 2050) (v1 : Int32) : wpX_heights (fun r => wpY_heights (fun r' => r' = r ∧ i_Rel (k + 4) u v) v v1) u v1 := by
  have I' := i_up I
  obtain ⟨n, mh, pl, O, G, fy, fq, kh, st, po, he, re, ch, fo, fb, hb, kb, ls, aq, aqs, ar, ks, kl, sta, lo, fie, pc, ta, ma, yf, rc, fr, cm, ds, yl, rfl, rfl, W, p1, p8, S, CX, CY, M⟩ := I
  have hn := W.1
  unfold wpX_heights
  refine mx_isPos hn rfl (fun h => br_t rfl ?_) (fun j hj ej => br_f (by decide) ?_)
  · by_cases h0 : v1 < 0
    · exact br_t h0 ⟨rfl, I'⟩
    · exact br_f h0 (br_t (h.elim (fun z => absurd z h0) id) ⟨rfl, I'⟩)
  · subst ej
    refine ⟨vp_in_nI (by omega) (by decide), my_heights W hj rfl CY (fun r hr => ⟨?_, I'⟩)⟩
    rw [nI_clamp (by omega)]
    apply b_ext
    intro b hb
    rw [Bool.eq_iff_iff, hr b hb]
    exact ((CX (by omega)).2.1 j (by omega) b hb).symm
theorem i_vc_verdict {k : Nat} {u : SX} {v : SY} (I : i_Rel k u v) (hk : k + 4 ≤ 2050) : wpX_verdict (fun r => wpY_verdict (fun r' => r' = r ∧ i_Rel (k + 4) u v) v) u := by
  have I' := i_up I
  obtain ⟨n, mh, pl, O, G, fy, fq, kh, st, po, he, re, ch, fo, fb, hb, kb, ls, aq, aqs, ar, ks, kl, sta, lo, fie, pc, ta, ma, yf, rc, fr, cm, ds, yl, rfl, rfl, W, p1, p8, S, CX, CY, M⟩ := I
  have hn := W.1
  refine pk_eq n 0 (fun h => ?_) (fun h => ?_)
  · exact my_verdict W rfl rfl rfl rfl CY (fun _ => ⟨rfl, I'⟩) (fun z => by omega) (fun z => by omega)
  · have cf := (CX (by omega)).2.2.2.2
    refine br_c (fun c => ?_) (fun c => ?_)
    · exact my_verdict W rfl rfl rfl rfl CY (fun z => by omega) (fun _ _ => ⟨rfl, I'⟩) (fun _ z => absurd (cf.mp c) z)
    · exact my_verdict W rfl rfl rfl rfl CY (fun z => by omega) (fun _ z => absurd (cf.mpr z) c) (fun _ _ => ⟨rfl, I'⟩)
end
section
/-! the calls that set, clear and start; kinds and cell -/
theorem pj_ref (op arg : Int32) : (op < 0 ∨ ¬ op ≤ 13) ∨ (∃ o, o ≤ 13 ∧ op = nI o ∧ (o = 8 ∨ o = 9) ∧ ¬ (arg = 0 ∨ arg = 1)) ∨ (∃ o, o ≤ 13 ∧ op = nI o ∧ ((o = 8 ∨ o = 9) → (arg = 0 ∨ arg = 1))) := by
  rcases pk_ix op (n := 14) (by omega) with h | h | ⟨o, ho, rfl⟩
  · exact Or.inl (Or.inl h)
  · exact Or.inl (Or.inr (fun z => absurd (Int32.le_trans h z) (by decide)))
  · by_cases c : arg = 0 ∨ arg = 1
    · exact Or.inr (Or.inr ⟨o, by omega, rfl, fun _ => c⟩)
    · by_cases c2 : o = 8 ∨ o = 9
      · exact Or.inr (Or.inl ⟨o, by omega, rfl, c2, c⟩)
      · exact Or.inr (Or.inr ⟨o, by omega, rfl, fun z => absurd z c2⟩)
theorem mx_refA {post : Int32 → Prop} {op arg : Int32} (h : op < 0 ∨ ¬ op ≤ 13) (H : post (-2)) : wpX_refusalOf post op arg := by
  by_cases h0 : op < 0
  · exact br_t h0 H
  · exact br_f h0 (br_f (h.elim (fun z => absurd z h0) id) H)
theorem mx_refB {post : Int32 → Prop} {o : Nat} {arg : Int32} (h : o = 8 ∨ o = 9) (h2 : ¬ (arg = 0 ∨ arg = 1)) (H : post (-3)) : wpX_refusalOf post (nI o) arg := by
  have k : wX_refusalOf_25 post arg := by
    refine br_f (by decide) ?_
    rcases pk_ix arg (n := 2) (by omega) with z | z | ⟨j, hj, rfl⟩
    · exact br_t z H
    · by_cases h0 : arg < 0
      · exact br_t h0 H
      · exact br_f h0 (br_f (Int32.not_lt.mpr z) H)
    · exact absurd (by have : j = 0 ∨ j = 1 := by omega
                       rcases this with rfl | rfl
                       · exact Or.inl rfl
                       · exact Or.inr rfl) h2
  rcases h with rfl | rfl
  · exact br_f (by decide) (br_t (by decide) (br_t (by decide) k))
  · exact br_f (by decide) (br_t (by decide) (br_f (by decide) (br_t (by decide) k)))
theorem mx_refC {post : Int32 → Prop} {o : Nat} {arg : Int32} (ho : o ≤ 13) (h : (o = 8 ∨ o = 9) → (arg = 0 ∨ arg = 1)) (H : post 0) : wpX_refusalOf post (nI o) arg := by
  have k : (o = 8 ∨ o = 9) → wX_refusalOf_25 post arg := fun z => by
    rcases h z with rfl | rfl
    · exact br_f (by decide) (br_f (by decide) (br_t (by decide) H))
    · exact br_f (by decide) (br_f (by decide) (br_t (by decide) H))
  refine br_f (nI_pos (by omega)) (br_t (nI_le (b := 13) ho (by decide)) ?_)
  exact pk_eq o 8 (fun z => k (Or.inl z)) (fun _ => pk_eq o 9 (fun z => k (Or.inr z)) (fun _ => br_t rfl H))
section
variable {g_greatest g_poolSize g_count g_doing g_pc g_tall g_made g_forks g_bits : Int32} {d_ops d_args d_reached d_fresh d_coming d_dist d_stack d_locals d_fields : Nat → Int32} {n mh : Nat} {O : Nat → Nat} {G : Nat → Int32}
theorem my_refA {post : Int32 → Prop} {op arg : Int32} (h : op < 0 ∨ ¬ op ≤ 13) (H : post (-2)) : wpY_complaint post (g_greatest, g_poolSize, g_count, g_doing, g_pc, g_tall, g_made, g_forks, g_bits, d_ops, d_args, d_reached, d_fresh, d_coming, d_dist, d_stack, d_locals, d_fields) op arg := by
  by_cases h0 : op < 0
  · exact br_t h0 H
  · exact br_f h0 (br_f (h.elim (fun z => absurd z h0) id) H)
theorem my_refB {post : Int32 → Prop} {o : Nat} {arg : Int32} (h : o = 8 ∨ o = 9) (h2 : ¬ (arg = 0 ∨ arg = 1)) (H : post (-3)) : wpY_complaint post (g_greatest, g_poolSize, g_count, g_doing, g_pc, g_tall, g_made, g_forks, g_bits, d_ops, d_args, d_reached, d_fresh, d_coming, d_dist, d_stack, d_locals, d_fields) (nI o) arg := by
  have k : wY_complaint_25 post arg g_greatest g_poolSize g_count g_doing g_pc g_tall g_made g_forks g_bits d_ops d_args d_reached d_fresh d_coming d_dist d_stack d_locals d_fields := br_f (fun z => h2 (Or.inl z)) (br_f (fun z => h2 (Or.inr z)) H)
  rcases h with rfl | rfl
  · exact br_f (by decide) (br_t (by decide) (br_t (by decide) k))
  · exact br_f (by decide) (br_t (by decide) (br_f (by decide) (br_t (by decide) k)))
theorem my_refC {post : Int32 → Prop} {o : Nat} {arg : Int32} (ho : o ≤ 13) (h : (o = 8 ∨ o = 9) → (arg = 0 ∨ arg = 1)) (H : post 0) : wpY_complaint post (g_greatest, g_poolSize, g_count, g_doing, g_pc, g_tall, g_made, g_forks, g_bits, d_ops, d_args, d_reached, d_fresh, d_coming, d_dist, d_stack, d_locals, d_fields) (nI o) arg := by
  have k : (o = 8 ∨ o = 9) → wY_complaint_25 post arg g_greatest g_poolSize g_count g_doing g_pc g_tall g_made g_forks g_bits d_ops d_args d_reached d_fresh d_coming d_dist d_stack d_locals d_fields := fun z => by
    rcases h z with rfl | rfl
    · exact br_t (by decide) H
    · exact br_f (by decide) (br_t (by decide) H)
  refine br_f (nI_pos (by omega)) (br_t (nI_le (b := 13) ho (by decide)) ?_)
  exact pk_eq o 8 (fun z => k (Or.inl z)) (fun _ => pk_eq o 9 (fun z => k (Or.inr z)) (fun _ => H))
end
section
variable {f_maxHeight f_pool f_length f_faulty f_queued f_kindHeight f_status f_position f_height f_records f_choices f_forks : Int32} {a_ops a_args a_faultBits a_heightBits a_kindBits a_leastSteps a_queue a_queueSteps a_reached a_kindStack a_kindLocals a_stack a_locals a_fields : Nat → Int32} {n mh : Nat} {O : Nat → Nat} {G : Nat → Int32}
theorem mx_reset {post : SX → Prop} {x : Int32} (H : post (f_maxHeight, f_pool, f_length, f_faulty, f_queued, f_kindHeight, x, 0, 0, 0, f_choices, 0, a_ops, a_args, a_faultBits, a_heightBits, a_kindBits, a_leastSteps, a_queue, a_queueSteps, a_reached, a_kindStack, a_kindLocals, a_stack, upd (upd a_locals 0 0) 1 0, a_fields)) : wpX_resetMachine post (f_maxHeight, f_pool, f_length, f_faulty, f_queued, f_kindHeight, f_status, f_position, f_height, f_records, f_choices, f_forks, a_ops, a_args, a_faultBits, a_heightBits, a_kindBits, a_leastSteps, a_queue, a_queueSteps, a_reached, a_kindStack, a_kindLocals, a_stack, a_locals, a_fields) x := nm_e (nm_e H)
theorem mx_set {post : SX → Prop} {p o : Nat} {g : Int32} (W : pj_PG n mh (pj_uN O p o) (upd G p g)) (hp : p < n) (hmh : f_maxHeight = nI mh) (hl : f_length = nI n) (hO : a_ops = pj_nF O) (hG : a_args = G) (S : pj_SQ f_queued a_queue a_queueSteps a_reached)
    (H : ∀ fy fq kh fb hb kb ls aq aqs R ks kl, pj_SQ fq aq aqs R → pj_CX n mh (pj_uN O p o) (upd G p g) fy fb hb kb ls → post (f_maxHeight, f_pool, f_length, fy, fq, kh, 0, 0, 0, 0, f_choices, 0, pj_nF (pj_uN O p o), upd G p g, fb, hb, kb, ls, aq, aqs, R, ks, kl, a_stack, upd (upd a_locals 0 0) 1 0, a_fields)) : wpX_setInstruction post (f_maxHeight, f_pool, f_length, f_faulty, f_queued, f_kindHeight, f_status, f_position, f_height, f_records, f_choices, f_forks, a_ops, a_args, a_faultBits, a_heightBits, a_kindBits, a_leastSteps, a_queue, a_queueSteps, a_reached, a_kindStack, a_kindLocals, a_stack, a_locals, a_fields) (nI p) (nI o) g := by
  have hn := W.1
  have hin := vp_in_nI (n := p) (N := 16) (by omega) (by decide)
  subst hO hG
  refine ⟨hin, nm_e ⟨hin, nm_e ?_⟩⟩
  rw [nI_clamp (by omega), pj_nFu]
  refine mx_judge W (by omega) hmh hl rfl rfl S (fun fy fq kh fb hb kb ls aq aqs R ks kl h1 h2 => ?_)
  exact mx_reset (H _ _ _ _ _ _ _ _ _ _ _ _ h1 h2)
end
theorem pj_PGset {n n' mh p o : Nat} {O : Nat → Nat} {G : Nat → Int32} {g : Int32} (W : pj_PG n mh O G) (hn' : n' ≤ 16) (hs : ∀ q, q < n' → q ≠ p → q < n) (ho : o ≤ 13) (hg : (o = 8 ∨ o = 9) → (g = 0 ∨ g = 1)) : pj_PG n' mh (pj_uN O p o) (upd G p g) := by
  obtain ⟨hn, m1, m4, hO, hA⟩ := W
  refine ⟨hn', m1, m4, fun q hq => ?_, fun q hq => ?_⟩
  · by_cases e : q = p
    · subst e; rw [pj_uNs]; exact ho
    · rw [pj_uNn e]; exact hO q (hs q hq e)
  · by_cases e : q = p
    · subst e; rw [pj_uNs, pk_us]; exact hg
    · rw [pj_uNn e, pk_un e]; exact hA q (hs q hq e)
theorem pj_M0 {n mh : Nat} {O : Nat → Nat} {G : Nat → Int32} {pl : Nat} {fo : Int32} {sta lo : Nat → Int32} {pc ta ma yf : Int32} {yl : Nat → Int32} : pj_M n mh O G pl 0 0 0 0 fo sta (upd (upd lo 0 0) 1 0) pc ta ma yf yl :=
  Or.inl ⟨rfl, rfl, rfl, rfl, by rw [pk_un (by decide), pk_us], by rw [pk_us]⟩
theorem i_vc_emit {k : Nat} {u : SX} {v : SY} (I : i_Rel k u v) (hk : k + 4 ≤ 2050) (v1 : Int32) (v2 : Int32) : wpX_emit (fun r u' => wpY_emit (fun r' v' => r' = r ∧ i_Rel (k + 4) u' v') v v1 v2) u v1 v2 := by
  have I' := i_up I
  obtain ⟨n, mh, pl, O, G, fy, fq, kh, st, po, he, re, ch, fo, fb, hb, kb, ls, aq, aqs, ar, ks, kl, sta, lo, fie, pc, ta, ma, yf, rc, fr, cm, ds, yl, rfl, rfl, W, p1, p8, S, CX, CY, M⟩ := I
  have hn := W.1
  unfold wpX_emit
  refine pk_lt n 16 (fun hlt => ?_) (fun hge => ?_)
  · rcases pj_ref v1 v2 with h | ⟨o, ho, rfl, h1, h2⟩ | ⟨o, ho, rfl, h1⟩
    · exact mx_refA h (br_f (by decide) (br_t (nI_lt (b := 16) hlt (by decide)) (my_refA h (br_f (by decide) ⟨rfl, I'⟩))))
    · exact mx_refB h1 h2 (br_f (by decide) (br_t (nI_lt (b := 16) hlt (by decide)) (my_refB h1 h2 (br_f (by decide) ⟨rfl, I'⟩))))
    · refine mx_refC ho h1 (br_t rfl (nm_r (nI_1 n) ?_))
      have W' : pj_PG (n + 1) mh (pj_uN O n o) (upd G n v2) := pj_PGset W (by omega) (fun q hq e => by omega) ho h1
      refine mx_set W' (by omega) rfl rfl rfl rfl S (fun fy fq kh fb hb kb ls aq aqs R ks kl S' CX' => ?_)
      have hin := vp_in_nI (n := n) (N := 16) (by omega) (by decide)
      refine br_t (nI_lt (b := 16) hlt (by decide)) (my_refC ho h1 (br_t rfl ⟨hin, nm_e ⟨hin, nm_e (nm_r (nI_1 n) ?_)⟩⟩))
      rw [nI_clamp (by omega), pj_nFu]
      refine my_judge W' rfl rfl rfl rfl (fun rc fr cm ds CY' => ⟨nI_pred n, ?_⟩)
      exact ⟨n + 1, mh, pl, _, _, _, _, _, _, _, _, _, _, _, _, _, _, _, _, _, _, _, _, _, _, _, _, _, _, _, _, _, _, _, _, rfl, rfl, W', p1, p8, S', fun _ => CX', CY', pj_M0⟩
  · exact br_f (nI_nlt (b := 16) hge (by omega)) ⟨rfl, I'⟩
theorem i_vc_patch {k : Nat} {u : SX} {v : SY} (I : i_Rel k u v) (hk : k + 4 ≤ 2050) (v1 : Int32) (v2 : Int32) (v3 : Int32) : wpX_patch (fun r u' => wpY_patch (fun r' v' => r' = r ∧ i_Rel (k + 4) u' v') v v1 v2 v3) u v1 v2 v3 := by
  have I' := i_up I
  obtain ⟨n, mh, pl, O, G, fy, fq, kh, st, po, he, re, ch, fo, fb, hb, kb, ls, aq, aqs, ar, ks, kl, sta, lo, fie, pc, ta, ma, yf, rc, fr, cm, ds, yl, rfl, rfl, W, p1, p8, S, CX, CY, M⟩ := I
  have hn := W.1
  unfold wpX_patch
  refine mx_isPos hn rfl (fun h => br_t rfl ?_) (fun j hj ej => br_f (by decide) ?_)
  · by_cases h0 : v1 < 0
    · exact br_t h0 ⟨rfl, I'⟩
    · exact br_f h0 (br_f (Int32.not_lt.mpr (h.elim (fun z => absurd z h0) id)) ⟨rfl, I'⟩)
  · subst ej
    have y0 : ¬ nI j < 0 := nI_pos (by omega)
    have y1 : nI j < nI n := nI_lt hj (by omega)
    rcases pj_ref v2 v3 with h | ⟨o, ho, rfl, h1, h2⟩ | ⟨o, ho, rfl, h1⟩
    · exact mx_refA h (br_f (by decide) (br_f y0 (br_t y1 (my_refA h (br_f (by decide) ⟨rfl, I'⟩)))))
    · exact mx_refB h1 h2 (br_f (by decide) (br_f y0 (br_t y1 (my_refB h1 h2 (br_f (by decide) ⟨rfl, I'⟩)))))
    · refine mx_refC ho h1 (br_t rfl ?_)
      have W' : pj_PG n mh (pj_uN O j o) (upd G j v3) := pj_PGset W hn (fun q hq e => hq) ho h1
      refine mx_set W' hj rfl rfl rfl rfl S (fun fy fq kh fb hb kb ls aq aqs R ks kl S' CX' => ?_)
      have hin := vp_in_nI (n := j) (N := 16) (by omega) (by decide)
      refine br_f y0 (br_t y1 (my_refC ho h1 (br_t rfl ⟨hin, nm_e ⟨hin, nm_e ?_⟩⟩)))
      rw [nI_clamp (by omega), pj_nFu]
      refine my_judge W' rfl rfl rfl rfl (fun rc fr cm ds CY' => ⟨rfl, ?_⟩)
      exact ⟨n, mh, pl, _, _, _, _, _, _, _, _, _, _, _, _, _, _, _, _, _, _, _, _, _, _, _, _, _, _, _, _, _, _, _, _, rfl, rfl, W', p1, p8, S', fun _ => CX', CY', pj_M0⟩
theorem pj_PG0 {n mh : Nat} {O : Nat → Nat} {G : Nat → Int32} (W : pj_PG n mh O G) : pj_PG 0 mh O G := ⟨by omega, W.2.1, W.2.2.1, fun p hp => by omega, fun p hp => by omega⟩
theorem i_vc_clear {k : Nat} {u : SX} {v : SY} (I : i_Rel k u v) (hk : k + 4 ≤ 2050) : wpX_clear (fun u' => wpY_clear (fun v' => i_Rel (k + 4) u' v') v) u := by
  obtain ⟨n, mh, pl, O, G, fy, fq, kh, st, po, he, re, ch, fo, fb, hb, kb, ls, aq, aqs, ar, ks, kl, sta, lo, fie, pc, ta, ma, yf, rc, fr, cm, ds, yl, rfl, rfl, W, p1, p8, S, CX, CY, M⟩ := I
  unfold wpX_clear
  refine mx_reset ?_
  refine my_judge (pj_PG0 W) rfl rfl rfl rfl (fun rc fr cm ds CY' => ?_)
  exact ⟨0, mh, pl, O, G, _, _, _, _, _, _, _, _, _, _, _, _, _, _, _, _, _, _, _, _, _, _, _, _, _, _, _, _, _, _, rfl, rfl, pj_PG0 W, p1, p8, S, fun z => absurd z (by decide), CY', pj_M0⟩
section
variable {g_greatest g_poolSize g_count g_doing g_pc g_tall g_made g_forks g_bits : Int32} {d_ops d_args d_reached d_fresh d_coming d_dist d_stack d_locals d_fields : Nat → Int32} {n mh : Nat} {O : Nat → Nat} {G : Nat → Int32}
theorem my_start {post : Int32 → SY → Prop} {x : Int32} (W : pj_PG n mh O G) (hO : d_ops = pj_nF O) (hG : d_args = G) (hmh : g_greatest = nI mh) (hc : g_count = nI n) (C : pj_CY n mh O G d_reached d_dist)
    (Hn : ¬ (0 < n ∧ pj_Safe n mh O G) → post 0 (g_greatest, g_poolSize, g_count, g_doing, g_pc, g_tall, g_made, g_forks, g_bits, d_ops, d_args, d_reached, d_fresh, d_coming, d_dist, d_stack, d_locals, d_fields)) (Hy : 0 < n → pj_Safe n mh O G → post 1 (g_greatest, g_poolSize, g_count, 1, 0, 0, 0, 0, x, d_ops, d_args, d_reached, d_fresh, d_coming, d_dist, d_stack, upd (upd d_locals 0 0) 1 0, d_fields)) : wpY_start post (g_greatest, g_poolSize, g_count, g_doing, g_pc, g_tall, g_made, g_forks, g_bits, d_ops, d_args, d_reached, d_fresh, d_coming, d_dist, d_stack, d_locals, d_fields) x := by
  unfold wpY_start
  refine my_verdict W hO hG hmh hc C (fun h => br_f (by decide) (Hn (by omega))) (fun h h' => br_t rfl (nm_e (nm_e (Hy h h')))) (fun h h' => br_f (by decide) (Hn (fun z => h' z.2)))
end
theorem i_vc_start {k : Nat} {u : SX} {v : SY} (I : i_Rel k u v) (hk : k + 4 ≤ 2050) (v1 : Int32) : wpX_start (fun r u' => wpY_start (fun r' v' => r' = r ∧ i_Rel (k + 4) u' v') v v1) u v1 := by
  have I' := i_up I
  obtain ⟨n, mh, pl, O, G, fy, fq, kh, st, po, he, re, ch, fo, fb, hb, kb, ls, aq, aqs, ar, ks, kl, sta, lo, fie, pc, ta, ma, yf, rc, fr, cm, ds, yl, rfl, rfl, W, p1, p8, S, CX, CY, M⟩ := I
  have hn := W.1
  unfold wpX_start
  refine pk_eq n 0 (fun h => ?_) (fun h => ?_)
  · exact br_f (by decide) (my_start W rfl rfl rfl rfl CY (fun _ => ⟨rfl, I'⟩) (fun z => by omega))
  · have cf := (CX (by omega)).2.2.2.2
    refine br_c (fun c => br_t rfl (mx_reset ?_)) (fun c => br_f (by decide) ?_)
    · refine my_start W rfl rfl rfl rfl CY (fun z => absurd ⟨by omega, cf.mp c⟩ z) (fun _ hS => ⟨rfl, ?_⟩)
      refine ⟨n, mh, pl, O, G, _, _, _, _, _, _, _, _, _, _, _, _, _, _, _, _, _, _, _, _, _, _, _, _, _, _, _, _, _, _, rfl, rfl, W, p1, p8, S, CX, CY, Or.inr ⟨by decide, 0, 0, 0, rfl, rfl, rfl, rfl, rfl, rfl, by decide, ?_, ?_, by omega, by omega, by omega, fun _ => ⟨hS, 8, ⟨0, by omega, rfl, rfl⟩, ⟨by decide, fun i hi => by omega⟩, ⟨fun z => absurd z (by decide), fun z => absurd z (by decide)⟩⟩⟩⟩
      · rw [pk_un (by decide), pk_us, pk_un (by decide), pk_us]
      · rw [pk_us, pk_us]
    · exact my_start W rfl rfl rfl rfl CY (fun _ => ⟨rfl, I'⟩) (fun _ z => absurd (cf.mpr z) c)
theorem mx_clamp {post : Int32 → Prop} {x lo hi : Int32} (H1 : x < lo → post lo) (H2 : lo ≤ x → hi < x → post hi) (H3 : lo ≤ x → x ≤ hi → post x) : wpX_clamp post x lo hi := by
  refine br_c (fun h => br_c (fun h' => H3 h h') (fun h' => H2 h (Int32.not_le.mp h'))) (fun h => H1 (Int32.not_le.mp h))
theorem mx_clampM {P Q : Int32 → Prop} {x lo hi : Int32} (h : wpX_clamp P x lo hi) (H : ∀ r, P r → Q r) : wpX_clamp Q x lo hi := by
  obtain ⟨h1, h2⟩ := h
  exact ⟨fun z => ⟨fun y => H _ ((h1 z).1 y), fun y => H _ ((h1 z).2 y)⟩, fun z => H _ (h2 z)⟩
theorem pj_c8 {x : Int32} {N : Nat} (hN : N < 2 ^ 31) (h1 : 1 ≤ x) (h2 : x ≤ nI N) : ∃ m, 1 ≤ m ∧ m ≤ N ∧ x = nI m := by
  have h0 : ¬ x < 0 := fun z => Int32.lt_irrefl (Int32.lt_of_lt_of_le z (Int32.le_trans (by decide) h1))
  obtain ⟨j, hj, rfl⟩ := nI_of h0
  exact ⟨j, (nI_leI (a := 1) (by omega) hj).mp h1, (nI_leI hj hN).mp h2, rfl⟩
theorem i_vc0 (k0 : Int32) (k1 : Int32) : wpX_init (fun u => wpY_init (fun v => i_Rel 2 u v) k0 k1) k0 k1 := by
  have fin : ∀ mh pl : Nat, 1 ≤ mh → mh ≤ 4 → 1 ≤ pl → pl ≤ 8 → wY_init_122 (fun v => i_Rel 2 (nI mh, nI pl, 0, 0, 0, 0, 0, 0, 0, 0, 0, 0, (fun _ => 0), (fun _ => 0), (fun _ => 0), (fun _ => 0), (fun _ => 0), (fun _ => 0), (fun _ => 0), (fun _ => 0), (fun _ => 0), (fun _ => 0), (fun _ => 0), (fun _ => 0), (fun _ => 0), (fun _ => 0)) v) (nI pl) (nI mh) 0 0 0 0 0 0 0 0 (fun _ => 0) (fun _ => 0) (fun _ => 0) (fun _ => 0) (fun _ => 0) (fun _ => 0) (fun _ => 0) (fun _ => 0) (fun _ => 0) := fun mh pl a b c d => by
    have W : pj_PG 0 mh (fun _ => 0) (fun _ => 0) := ⟨by omega, a, b, fun p hp => by omega, fun p hp => by omega⟩
    unfold wY_init_122
    refine my_judge W rfl rfl rfl rfl (fun rc fr cm ds CY' => ?_)
    refine ⟨0, mh, pl, (fun _ => 0), (fun _ => 0), _, _, _, _, _, _, _, _, _, _, _, _, _, _, _, _, _, _, _, _, _, _, _, _, _, _, _, _, _, _, rfl, rfl, W, c, d, ⟨0, (fun _ => 0), (fun _ => 0), rfl, rfl, rfl, by omega, fun j hj => by omega, fun N hN h => absurd rfl h⟩, fun z => absurd z (by decide), CY', Or.inl ⟨rfl, rfl, rfl, rfl, rfl, rfl⟩⟩
  have poolY : ∀ mh : Nat, 1 ≤ mh → mh ≤ 4 → wpX_clamp (fun r_2 => wY_init_97 (fun v => i_Rel 2 (nI mh, r_2, 0, 0, 0, 0, 0, 0, 0, 0, 0, 0, (fun _ => 0), (fun _ => 0), (fun _ => 0), (fun _ => 0), (fun _ => 0), (fun _ => 0), (fun _ => 0), (fun _ => 0), (fun _ => 0), (fun _ => 0), (fun _ => 0), (fun _ => 0), (fun _ => 0), (fun _ => 0)) v) k1 (nI mh) 0 0 0 0 0 0 0 0 0 (fun _ => 0) (fun _ => 0) (fun _ => 0) (fun _ => 0) (fun _ => 0) (fun _ => 0) (fun _ => 0) (fun _ => 0) (fun _ => 0)) k1 1 8 := fun mh a b => by
    refine mx_clamp (fun h => ?_) (fun h h' => ?_) (fun h h' => ?_)
    · exact br_f (Int32.not_le.mpr h) (fin mh 1 a b (by omega) (by omega))
    · exact br_t h (br_f (Int32.not_le.mpr h') (fin mh 8 a b (by omega) (by omega)))
    · obtain ⟨m, c, d, rfl⟩ := pj_c8 (N := 8) (by omega) h h'
      exact br_t h (br_t h' (fin mh m a b c d))
  unfold wpX_init
  refine mx_clamp (fun h => ?_) (fun h h' => ?_) (fun h h' => ?_)
  · refine mx_clampM (poolY 1 (by omega) (by omega)) (fun r hr => br_f (Int32.not_le.mpr h) hr)
  · refine mx_clampM (poolY 4 (by omega) (by omega)) (fun r hr => br_t h (br_f (Int32.not_le.mpr h') hr))
  · obtain ⟨m, c, d, rfl⟩ := pj_c8 (N := 4) (by omega) h h'
    refine mx_clampM (poolY m c d) (fun r hr => br_t h (br_t h' hr))
end
section
/-! kinds and cell -/
def pj_cf (h m : Nat) (sta lo fie : Nat → Int32) (i : Nat) : Int32 := if i < h then sta i else if i = 4 then lo 0 else if i = 5 then lo 1 else if 8 ≤ i ∧ i < 8 + m then fie (i - 8) else 0
theorem pj_neg4 {x : Int32} (h : x < 0) : x < 4 := Int32.lt_trans h (by decide)
theorem pj_neg8 {x : Int32} (h : x < 0) : x < 8 := Int32.lt_trans h (by decide)
theorem pj_n4 : (4 : Int32) = nI 4 := rfl
theorem pj_n8 : (8 : Int32) = nI 8 := rfl
theorem pj_and3 {i : Nat} (h : i < 4) : nI i &&& 3 = nI i := by rw [pk_andN (by omega) 2 (by decide), Nat.mod_eq_of_lt (by omega)]
theorem pj_and7 {i : Nat} (h : i < 8) : nI i &&& 7 = nI i := by rw [pk_andN (by omega) 3 (by decide), Nat.mod_eq_of_lt (by omega)]
theorem pj_and15 {i : Nat} (h : i < 16) : nI i &&& 15 = nI i := by rw [pk_andN (by omega) 4 (by decide), Nat.mod_eq_of_lt (by omega)]
section
variable {f_maxHeight f_pool f_length f_faulty f_queued f_kindHeight f_status f_position f_height f_records f_choices f_forks : Int32} {a_ops a_args a_faultBits a_heightBits a_kindBits a_leastSteps a_queue a_queueSteps a_reached a_kindStack a_kindLocals a_stack a_locals a_fields : Nat → Int32}
theorem mx_cell {post : Int32 → Prop} {x : Int32} {h m : Nat} (hh : f_height = nI h) (hr : f_records = nI m) (h4 : h ≤ 4) (m8 : m ≤ 8) (Hn : x < 0 → post 0) (Hi : ∀ i, x = nI i → i < 2 ^ 31 → post (pj_cf h m a_stack a_locals a_fields i)) : wpX_cell post (f_maxHeight, f_pool, f_length, f_faulty, f_queued, f_kindHeight, f_status, f_position, f_height, f_records, f_choices, f_forks, a_ops, a_args, a_faultBits, a_heightBits, a_kindBits, a_leastSteps, a_queue, a_queueSteps, a_reached, a_kindStack, a_kindLocals, a_stack, a_locals, a_fields) x := by
  subst hh hr
  by_cases h0 : x < 0
  · exact br_t h0 (br_t (pj_neg4 h0) (br_t (pj_neg8 h0) (Hn h0)))
  · obtain ⟨i, hi, rfl⟩ := nI_of h0
    have key : ∀ r, pj_cf h m a_stack a_locals a_fields i = r → post r := fun r e => by rw [← e]; exact Hi i rfl hi
    refine br_f h0 (pk_le h i (fun hge => ?_) (fun hlt => ⟨vp_in_nI (by omega) (by decide), ?_⟩))
    · have c39 : i ≠ 4 → i ≠ 5 → wX_cell_39 post (nI i) f_maxHeight f_pool f_length f_faulty f_queued f_kindHeight f_status f_position (nI h) (nI m) f_choices f_forks a_ops a_args a_faultBits a_heightBits a_kindBits a_leastSteps a_queue a_queueSteps a_reached a_kindStack a_kindLocals a_stack a_locals a_fields := fun i4 i5 => by
        refine pk_lt i 8 (fun h8 => key 0 ?_) (fun h8 => ?_)
        · unfold pj_cf
          rw [if_neg (by omega), if_neg i4, if_neg i5, if_neg (by omega)]
        · rw [pj_n8, pk_sub h8]
          refine pk_le m (i - 8) (fun hm => key 0 ?_) (fun hm => ⟨vp_in_nI (by omega) (by decide), key _ ?_⟩)
          · unfold pj_cf
            rw [if_neg (by omega), if_neg i4, if_neg i5, if_neg (by omega)]
          · rw [nI_clamp (by omega)]
            unfold pj_cf
            rw [if_neg (by omega), if_neg i4, if_neg i5, if_pos (by omega)]
      refine pk_lt i 4 (fun hl => c39 (by omega) (by omega)) (fun h4' => pk_le 6 i (fun h6 => c39 (by omega) (by omega)) (fun h6 => ?_))
      rw [pj_n4, pk_sub h4']
      refine ⟨vp_in_nI (by omega) (by decide), key _ ?_⟩
      rw [nI_clamp (by omega)]
      unfold pj_cf
      rw [if_neg (by omega)]
      by_cases e : i = 4
      · subst e
        rw [if_pos rfl]
      · have e5 : i = 5 := by omega
        subst e5
        rw [if_neg e, if_pos rfl]
    · refine key _ ?_
      rw [nI_clamp (by omega)]
      unfold pj_cf
      rw [if_pos hlt]
end
section
variable {g_greatest g_poolSize g_count g_doing g_pc g_tall g_made g_forks g_bits : Int32} {d_ops d_args d_reached d_fresh d_coming d_dist d_stack d_locals d_fields : Nat → Int32} {n mh : Nat} {O : Nat → Nat} {G : Nat → Int32}
theorem my_cell {post : Int32 → Prop} {x : Int32} {h m : Nat} (hst : g_doing ≠ 0) (hh : g_tall = nI h) (hr : g_made = nI m) (h4 : h ≤ 4) (m8 : m ≤ 8) (Hn : x < 0 → post 0) (Hi : ∀ i, x = nI i → i < 2 ^ 31 → post (pj_cf h m d_stack d_locals d_fields i)) : wpY_cell post (g_greatest, g_poolSize, g_count, g_doing, g_pc, g_tall, g_made, g_forks, g_bits, d_ops, d_args, d_reached, d_fresh, d_coming, d_dist, d_stack, d_locals, d_fields) x := by
  subst hh hr
  refine br_f hst ?_
  by_cases h0 : x < 0
  · refine br_t h0 (br_f (fun z => ?_) (br_f (fun z => ?_) (br_t (pj_neg8 h0) (Hn h0))))
    · subst z; exact absurd h0 (by decide)
    · subst z; exact absurd h0 (by decide)
  · obtain ⟨i, hi, rfl⟩ := nI_of h0
    have key : ∀ r, pj_cf h m d_stack d_locals d_fields i = r → post r := fun r e => by rw [← e]; exact Hi i rfl hi
    refine br_f h0 (pk_le h i (fun hge => ?_) (fun hlt => ?_))
    · refine pk_eq i 4 (fun e => ?_) (fun i4 => pk_eq i 5 (fun e => ?_) (fun i5 => ?_))
      · subst e
        refine ⟨vp_in_iff.mpr (by decide), key _ ?_⟩
        unfold pj_cf
        rw [if_neg (by omega), if_pos rfl]
        rfl
      · subst e
        refine ⟨vp_in_iff.mpr (by decide), key _ ?_⟩
        unfold pj_cf
        rw [if_neg (by omega), if_neg (by omega), if_pos rfl]
        rfl
      · refine pk_lt i 8 (fun h8 => key 0 ?_) (fun h8 => ?_)
        · unfold pj_cf
          rw [if_neg (by omega), if_neg i4, if_neg i5, if_neg (by omega)]
        · rw [pj_n8, pk_sub h8]
          refine pk_le m (i - 8) (fun hm => key 0 ?_) (fun hm => ?_)
          · unfold pj_cf
            rw [if_neg (by omega), if_neg i4, if_neg i5, if_neg (by omega)]
          · rw [pj_and7 (by omega)]
            refine ⟨vp_in_nI (by omega) (by decide), key _ ?_⟩
            rw [nI_clamp (by omega)]
            unfold pj_cf
            rw [if_neg (by omega), if_neg i4, if_neg i5, if_pos (by omega)]
    · rw [pj_and3 (by omega)]
      refine ⟨vp_in_nI (by omega) (by decide), key _ ?_⟩
      rw [nI_clamp (by omega)]
      unfold pj_cf
      rw [if_pos hlt]
theorem my_kz {post : Int32 → Prop} {p : Nat} {h pl : Int32} (W : pj_PG n mh O G) (hp : p < n) (hc : g_count = nI n) (C : pj_CY n mh O G d_reached d_dist) (hz : ∀ s, s < 1089 → nI (pj_hg (s / 9)) ≠ h) (H : post 0) : wpY_kinds post (g_greatest, g_poolSize, g_count, g_doing, g_pc, g_tall, g_made, g_forks, g_bits, d_ops, d_args, d_reached, d_fresh, d_coming, d_dist, d_stack, d_locals, d_fields) (nI p) h pl := by
  have hn := W.1
  have L : ∃ m : Nat, wY_kinds_37 post (nI p) h pl g_greatest g_poolSize g_count g_doing g_pc g_tall g_made g_forks g_bits d_ops d_args d_reached d_fresh d_coming d_dist d_stack d_locals d_fields m 0 0 := my_kindsL (dgt := fun _ => 0) W hp C (fun _ => by omega) (fun s hs e => absurd e (hz s hs)) (fun r hr => by
    have e : r = 0 := by
      apply b_ext
      intro b hb
      rw [b_0]
      cases hbt : bt r b
      · rfl
      · obtain ⟨s, h1, h2, _⟩ := (hr b hb).mp hbt
        exact absurd h2 (hz s (pj_Rlt W h1).2)
    rw [e]
    exact H)
  have k24 : wY_kinds_24 post (nI p) h pl 0 g_greatest g_poolSize g_count g_doing g_pc g_tall g_made g_forks g_bits d_ops d_args d_reached d_fresh d_coming d_dist d_stack d_locals d_fields := br_c (fun _ => L) (fun _ => br_c (fun _ => L) (fun _ => H))
  exact br_f (nI_pos (by omega)) (br_f (by rw [hc]; exact nI_ge hp (by omega)) (br_c (fun _ => k24) (fun _ => br_c (fun _ => L) (fun _ => k24))))
theorem my_kout {post : Int32 → Prop} {p hh : Nat} {pl : Int32} (W : pj_PG n mh O G) (hp : p < n) (hc : g_count = nI n) (hh5 : hh < 5) (hpl : pl < 0 ∨ nI 6 ≤ pl) (H : post 0) : wpY_kinds post (g_greatest, g_poolSize, g_count, g_doing, g_pc, g_tall, g_made, g_forks, g_bits, d_ops, d_args, d_reached, d_fresh, d_coming, d_dist, d_stack, d_locals, d_fields) (nI p) (nI hh) pl := by
  have hn := W.1
  have ne : ∀ j, j < 6 → pl ≠ nI j := fun j hj e => by
    subst e
    rcases hpl with h | h
    · exact nI_pos (by omega) h
    · exact nI_ge hj (by omega) h
  have k24 : wY_kinds_24 post (nI p) (nI hh) pl 0 g_greatest g_poolSize g_count g_doing g_pc g_tall g_made g_forks g_bits d_ops d_args d_reached d_fresh d_coming d_dist d_stack d_locals d_fields := br_f (ne 4 (by omega)) (br_f (ne 5 (by omega)) H)
  refine br_f (nI_pos (by omega)) (br_f (by rw [hc]; exact nI_ge hp (by omega)) (br_c (fun _ => k24) (fun h0 => br_f (fun z => ?_) k24)))
  rcases hpl with h | h
  · exact h0 h
  · exact nI_nlt (a := 6) (b := hh) (by omega) (by omega) (Int32.lt_of_le_of_lt h z)
theorem my_kinds {post : Int32 → Prop} {p hh pl : Nat} (W : pj_PG n mh O G) (hp : p < n) (hc : g_count = nI n) (C : pj_CY n mh O G d_reached d_dist) (hh5 : hh < 5) (hpl : pl < 6)
    (H : ∀ r, (∀ b, b < 32 → (bt r b = true ↔ ∃ s, pj_Rc n mh O G p s ∧ pj_hg (s / 9) = hh ∧ pj_Kd s hh pl b)) → post r) : wpY_kinds post (g_greatest, g_poolSize, g_count, g_doing, g_pc, g_tall, g_made, g_forks, g_bits, d_ops, d_args, d_reached, d_fresh, d_coming, d_dist, d_stack, d_locals, d_fields) (nI p) (nI hh) (nI pl) := by
  have hn := W.1
  have eh : ∀ s, nI (pj_hg (s / 9)) = nI hh ↔ pj_hg (s / 9) = hh := fun s => nI_eq (by have := pj_hgle (s / 9); omega) (by omega)
  have L : ∀ dgt : Nat → Nat, (∀ s, dgt s < 3) → (∀ s, s < 1089 → nI (pj_hg (s / 9)) = nI hh → ∀ post : Int32 → Prop, post (nI (dgt s)) → wpY_digitAt post (g_greatest, g_poolSize, g_count, g_doing, g_pc, g_tall, g_made, g_forks, g_bits, d_ops, d_args, d_reached, d_fresh, d_coming, d_dist, d_stack, d_locals, d_fields) (nI s) (nI hh) (nI pl)) → (∀ s b, pj_Kd s hh pl b ↔ dgt s = b) → ∃ m : Nat, wY_kinds_37 post (nI p) (nI hh) (nI pl) g_greatest g_poolSize g_count g_doing g_pc g_tall g_made g_forks g_bits d_ops d_args d_reached d_fresh d_coming d_dist d_stack d_locals d_fields m 0 0 := fun dgt d1 d2 d3 =>
    my_kindsL (dgt := dgt) W hp C d1 d2 (fun r hr => H r (fun b hb => by
      rw [hr b hb]
      exact ⟨fun ⟨s, a1, a2, a3⟩ => ⟨s, a1, (eh s).mp a2, (d3 s b).mpr a3⟩, fun ⟨s, a1, a2, a3⟩ => ⟨s, a1, (eh s).mpr a2, (d3 s b).mp a3⟩⟩))
  have L4 : pl = 4 → ∃ m : Nat, wY_kinds_37 post (nI p) (nI hh) (nI pl) g_greatest g_poolSize g_count g_doing g_pc g_tall g_made g_forks g_bits d_ops d_args d_reached d_fresh d_coming d_dist d_stack d_locals d_fields m 0 0 := fun e => by
    subst e
    refine L (fun s => s / 3 % 3) (fun s => by omega) (fun s hs _ post K => br_t rfl ⟨by decide, by decide, ?_⟩) (fun s b => ?_)
    · rw [pj_n3, pk_div (by omega) (by omega) (by omega), pk_rem (by omega) (by omega) (by omega)]
      exact K
    · unfold pj_Kd
      omega
  have L5 : pl = 5 → ∃ m : Nat, wY_kinds_37 post (nI p) (nI hh) (nI pl) g_greatest g_poolSize g_count g_doing g_pc g_tall g_made g_forks g_bits d_ops d_args d_reached d_fresh d_coming d_dist d_stack d_locals d_fields m 0 0 := fun e => by
    subst e
    refine L (fun s => s % 3) (fun s => by omega) (fun s hs _ post K => br_f (by decide) (br_t rfl ⟨by decide, ?_⟩)) (fun s b => ?_)
    · rw [pj_n3, pk_rem (by omega) (by omega) (by omega)]
      exact K
    · unfold pj_Kd
      omega
  refine br_f (nI_pos (by omega)) (br_f (by rw [hc]; exact nI_ge hp (by omega)) (br_f (nI_pos (by omega)) (pk_lt pl hh (fun hlt => ?_) (fun hge => pk_eq pl 4 L4 (fun n4 => pk_eq pl 5 L5 (fun n5 => ?_))))))
  · refine L (fun s => pj_dg (s / 9) pl) (fun s => pj_dg3 _ _) (fun s hs e post K => my_digitAt hs e (by rw [(eh s).mp e]; exact hlt) K) (fun s b => ?_)
    unfold pj_Kd
    constructor
    · rintro (⟨_, h⟩ | ⟨h, _⟩ | ⟨h, _⟩)
      · exact h
      · omega
      · omega
    · exact fun h => Or.inl ⟨hlt, h⟩
  · refine H 0 (fun b hb => ?_)
    rw [b_0]
    refine ⟨fun z => absurd z (by decide), fun ⟨s, _, _, z⟩ => ?_⟩
    unfold pj_Kd at z
    omega
end
theorem i_vc_kinds {k : Nat} {u : SX} {v : SY} (I : i_Rel k u v) (hk : k + 4 ≤ 2050) (v1 : Int32) (v2 : Int32) (v3 : Int32) : wpX_kinds (fun r => wpY_kinds (fun r' => r' = r ∧ i_Rel (k + 4) u v) v v1 v2 v3) u v1 v2 v3 := by
  have I' := i_up I
  obtain ⟨n, mh, pl, O, G, fy, fq, kh, st, po, he, re, ch, fo, fb, hb, kb, ls, aq, aqs, ar, ks, kl, sta, lo, fie, pc, ta, ma, yf, rc, fr, cm, ds, yl, rfl, rfl, W, p1, p8, S, CX, CY, M⟩ := I
  have hn := W.1
  unfold wpX_kinds
  refine mx_isPos hn rfl (fun h => br_t rfl ?_) (fun j hj ej => br_f (by decide) ?_)
  · by_cases h0 : v1 < 0
    · exact br_t h0 ⟨rfl, I'⟩
    · exact br_f h0 (br_t (h.elim (fun z => absurd z h0) id) ⟨rfl, I'⟩)
  · subst ej
    have ne5 : (v2 < 0 ∨ nI 5 ≤ v2) → ∀ s, s < 1089 → nI (pj_hg (s / 9)) ≠ v2 := fun h s hs e => by
      have h4 := pj_hgle (s / 9)
      subst e
      rcases h with h | h
      · exact nI_pos (by omega) h
      · exact nI_ge (b := 5) (by omega) (by omega) h
    rcases pk_ix v2 (n := 5) (by omega) with h | h | ⟨hh, hh5, rfl⟩
    · exact br_t h (my_kz W hj rfl CY (ne5 (Or.inl h)) ⟨rfl, I'⟩)
    · have h0 : ¬ v2 < 0 := Int32.not_lt.mpr (Int32.le_trans (by decide) h)
      exact br_f h0 (br_t (Int32.lt_of_lt_of_le (by decide) h) (my_kz W hj rfl CY (ne5 (Or.inr h)) ⟨rfl, I'⟩))
    · refine br_f (nI_pos (by omega)) (br_f (nI_nlt (b := 4) (a := 4) (by omega) (by omega) |> fun _ => Int32.not_lt.mpr (nI_le (b := 4) (by omega) (by decide))) ?_)
      rcases pk_ix v3 (n := 6) (by omega) with h | h | ⟨pl', hpl, rfl⟩
      · exact br_t h (my_kout W hj rfl hh5 (Or.inl h) ⟨rfl, I'⟩)
      · have h0 : ¬ v3 < 0 := Int32.not_lt.mpr (Int32.le_trans (by decide) h)
        exact br_f h0 (br_f (Int32.not_lt.mpr h) (my_kout W hj rfl hh5 (Or.inr h) ⟨rfl, I'⟩))
      · refine br_f (nI_pos (by omega)) (br_t (nI_lt (b := 6) hpl (by decide)) ?_)
        have e : (nI j * 5 + nI hh) * 6 + nI pl' = nI ((j * 5 + hh) * 6 + pl') := by
          rw [show (5 : Int32) = nI 5 from rfl, show (6 : Int32) = nI 6 from rfl, pk_mul, nI_add, pk_mul, nI_add]
        refine nm_r e ⟨vp_in_nI (by omega) (by decide), ?_⟩
        refine my_kinds W hj rfl CY hh5 hpl (fun r hr => ⟨?_, I'⟩)
        rw [nI_clamp (by omega)]
        apply b_ext
        intro b hb
        rw [Bool.eq_iff_iff, hr b hb]
        exact ((CX (by omega)).2.2.1 j hh pl' (by omega) hh5 hpl b hb).symm
theorem i_vc_cell {k : Nat} {u : SX} {v : SY} (I : i_Rel k u v) (hk : k + 4 ≤ 2050) (v1 : Int32) : wpX_cell (fun r => wpY_cell (fun r' => r' = r ∧ i_Rel (k + 4) u v) v v1) u v1 := by
  have I' := i_up I
  obtain ⟨n, mh, pl, O, G, fy, fq, kh, st, po, he, re, ch, fo, fb, hb, kb, ls, aq, aqs, ar, ks, kl, sta, lo, fie, pc, ta, ma, yf, rc, fr, cm, ds, yl, rfl, rfl, W, p1, p8, S, CX, CY, M⟩ := I
  rcases M with ⟨e0, e1, e2, e3, e4, e5⟩ | ⟨h0, p, h, m, e1, e2, e3, e4, e5, e6, e7, e8, e9, hp, h4, hm, _⟩
  · refine mx_cell (h := 0) (m := 0) e2 e3 (by omega) (by omega) (fun _ => br_t e0 ⟨rfl, I'⟩) (fun i ei hi => br_t e0 ⟨?_, I'⟩)
    unfold pj_cf
    rw [if_neg (by omega), e4, e5]
    split
    · rfl
    · split
      · rfl
      · rw [if_neg (by omega)]
  · refine mx_cell e3 e5 h4 (by omega) (fun hn => ?_) (fun i ei hi => ?_)
    · exact my_cell h0 e4 e6 h4 (by omega) (fun _ => ⟨rfl, I'⟩) (fun i ei hi => by subst ei; exact absurd hn (nI_pos hi))
    · refine my_cell h0 e4 e6 h4 (by omega) (fun hn => by subst ei; exact absurd hn (nI_pos hi)) (fun i' ei' hi' => ⟨?_, I'⟩)
      have ee : i' = i := (nI_eq hi' hi).mp (ei'.symm.trans ei)
      subst ee
      unfold pj_cf
      rw [e8, e9]
end
section
/-! the machine: one operation on both sides -/
theorem pj_TVpush {v h m k : Nat} {x : Int32} {sta : Nat → Int32} (t : pj_TV v h m sta) (hv : v < 40) (hk : k < 3) (hx : k = 1 → ∃ j, j < m ∧ x = nI j) : pj_TV (v * 3 + k + 1) (h + 1) m (upd sta h x) := by
  obtain ⟨rfl, ht⟩ := t
  have h4 := pj_hg4 hv
  obtain ⟨e1, e2, e3⟩ := pj_psh v hv k hk
  refine ⟨e1.symm, fun i hi hd => ?_⟩
  rcases Nat.lt_or_ge i (pj_hg v) with h1 | h1
  · rw [e3 i (by omega) h1] at hd
    rw [pk_un (by omega)]
    exact ht i h1 hd
  · have e : i = pj_hg v := by omega
    subst e
    rw [e2] at hd
    rw [pk_us]
    exact hx hd
theorem pj_TVpos {v h m : Nat} {sta : Nat → Int32} (t : pj_TV v (h + 1) m sta) : 0 < v := pj_hg1 (by have := t.1; omega)
theorem pj_TVpop {v h m : Nat} {sta : Nat → Int32} (t : pj_TV v (h + 1) m sta) (hv : v < 121) : pj_TV (pj_rs v) h m sta := by
  have h0 := pj_TVpos t
  obtain ⟨e1, e2, e3⟩ := pj_pop v hv h0
  have h4 := pj_hgle v
  have t1 := t.1
  have eh : h = pj_hg ((v - 1) / 3) := by omega
  refine ⟨eh, fun i hi hd => ?_⟩
  have hd' : pj_dg ((v - 1) / 3) i = 1 := hd
  rw [e3 i (by omega) (by omega)] at hd'
  exact t.2 i (by omega) hd'
theorem pj_TVtop {v h m : Nat} {sta : Nat → Int32} (t : pj_TV v (h + 1) m sta) (hv : v < 121) (ht : pj_tp v = 1) : ∃ j, j < m ∧ sta h = nI j := by
  have h0 := pj_TVpos t
  obtain ⟨e1, e2, e3⟩ := pj_pop v hv h0
  have t1 := t.1
  have e : pj_hg v - 1 = h := by omega
  rw [e] at e2
  exact t.2 h (by omega) (e2.trans ht)
theorem pj_TVm {v h m m' : Nat} {sta : Nat → Int32} (t : pj_TV v h m sta) (hm : m ≤ m') : pj_TV v h m' sta := ⟨t.1, fun i hi hd => by
  obtain ⟨j, hj, e⟩ := t.2 i hi hd
  exact ⟨j, by omega, e⟩⟩
theorem pj_TLm {a b m m' : Nat} {lo : Nat → Int32} (t : pj_TL a b m lo) (hm : m ≤ m') : pj_TL a b m' lo := ⟨fun h => by
  obtain ⟨j, hj, e⟩ := t.1 h
  exact ⟨j, by omega, e⟩, fun h => by
  obtain ⟨j, hj, e⟩ := t.2 h
  exact ⟨j, by omega, e⟩⟩
theorem pj_updself (f : Nat → Int32) (k : Nat) : upd f k (f k) = f := by
  funext j
  by_cases e : j = k
  · subst e; rw [pk_us]
  · rw [pk_un e]
section
variable {f_maxHeight f_pool f_length f_faulty f_queued f_kindHeight f_status f_position f_height f_records f_choices f_forks : Int32} {a_ops a_args a_faultBits a_heightBits a_kindBits a_leastSteps a_queue a_queueSteps a_reached a_kindStack a_kindLocals a_stack a_locals a_fields : Nat → Int32}
theorem mx_pushCell {post : SX → Prop} {h : Nat} {x : Int32} (hh : f_height = nI h) (h4 : h < 4) (H : post (f_maxHeight, f_pool, f_length, f_faulty, f_queued, f_kindHeight, f_status, f_position, nI (h + 1), f_records, f_choices, f_forks, a_ops, a_args, a_faultBits, a_heightBits, a_kindBits, a_leastSteps, a_queue, a_queueSteps, a_reached, a_kindStack, a_kindLocals, upd a_stack h x, a_locals, a_fields)) : wpX_pushCell post (f_maxHeight, f_pool, f_length, f_faulty, f_queued, f_kindHeight, f_status, f_position, f_height, f_records, f_choices, f_forks, a_ops, a_args, a_faultBits, a_heightBits, a_kindBits, a_leastSteps, a_queue, a_queueSteps, a_reached, a_kindStack, a_kindLocals, a_stack, a_locals, a_fields) x := by
  subst hh
  refine br_f (nI_ge (b := 4) h4 (by decide)) ⟨vp_in_nI h4 (by decide), ?_⟩
  intro a ea b eb
  subst ea
  subst eb
  rw [nI_clamp (by omega), nI_1]
  exact H
theorem mx_dropCells {post : SX → Prop} {h c : Nat} {x : Int32} (hh : f_height = nI (h + c)) (hx : x = nI c) (h4 : h + c ≤ 4) (H : post (f_maxHeight, f_pool, f_length, f_faulty, f_queued, f_kindHeight, f_status, f_position, nI h, f_records, f_choices, f_forks, a_ops, a_args, a_faultBits, a_heightBits, a_kindBits, a_leastSteps, a_queue, a_queueSteps, a_reached, a_kindStack, a_kindLocals, a_stack, a_locals, a_fields)) : wpX_dropCells post (f_maxHeight, f_pool, f_length, f_faulty, f_queued, f_kindHeight, f_status, f_position, f_height, f_records, f_choices, f_forks, a_ops, a_args, a_faultBits, a_heightBits, a_kindBits, a_leastSteps, a_queue, a_queueSteps, a_reached, a_kindStack, a_kindLocals, a_stack, a_locals, a_fields) x := by
  subst hh
  subst hx
  refine pk_le (h + c) c (fun e => ?_) (fun e => ?_)
  · have e2 : h = 0 := by omega
    rw [e2] at H
    exact H
  · intro b eb
    subst eb
    rw [pk_sub (by omega), Nat.add_sub_cancel]
    exact H
theorem mx_cb0 {post : Int32 → Prop} {h : Nat} (hh : f_height = nI h) (h4 : h ≤ 4) (H : ∀ r, (∀ h', h = h' + 1 → r = a_stack h') → post r) : wpX_cellBelowTop post (f_maxHeight, f_pool, f_length, f_faulty, f_queued, f_kindHeight, f_status, f_position, f_height, f_records, f_choices, f_forks, a_ops, a_args, a_faultBits, a_heightBits, a_kindBits, a_leastSteps, a_queue, a_queueSteps, a_reached, a_kindStack, a_kindLocals, a_stack, a_locals, a_fields) 0 := by
  subst hh
  cases h with
  | zero => exact nm_e (br_t (by decide) (H 0 (fun h' e => by omega)))
  | succ h =>
    refine nm_r (e' := nI h) ?_ ?_
    · rw [nI_pred]
      exact Int32.sub_zero _
    · refine br_f (nI_pos (by omega)) (br_f (nI_ge (b := 4) (by omega) (by decide)) ⟨vp_in_nI (by omega) (by decide), ?_⟩)
      rw [nI_clamp (by omega)]
      exact H _ (fun h' e => by rw [show h' = h by omega])
theorem mx_cb1 {post : Int32 → Prop} {h : Nat} (hh : f_height = nI h) (h4 : h ≤ 4) (H : ∀ r, (∀ h', h = h' + 2 → r = a_stack h') → post r) : wpX_cellBelowTop post (f_maxHeight, f_pool, f_length, f_faulty, f_queued, f_kindHeight, f_status, f_position, f_height, f_records, f_choices, f_forks, a_ops, a_args, a_faultBits, a_heightBits, a_kindBits, a_leastSteps, a_queue, a_queueSteps, a_reached, a_kindStack, a_kindLocals, a_stack, a_locals, a_fields) 1 := by
  subst hh
  cases h with
  | zero => exact nm_e (br_t (by decide) (H 0 (fun h' e => by omega)))
  | succ h =>
    cases h with
    | zero => exact nm_e (br_t (by decide) (H 0 (fun h' e => by omega)))
    | succ h =>
      refine nm_r (e' := nI h) ?_ ?_
      · rw [nI_pred, nI_pred]
      · refine br_f (nI_pos (by omega)) (br_f (nI_ge (b := 4) (by omega) (by decide)) ⟨vp_in_nI (by omega) (by decide), ?_⟩)
        rw [nI_clamp (by omega)]
        exact H _ (fun h' e => by rw [show h' = h by omega])
theorem mx_makeRecord {post : SX → Prop} {m : Nat} (hr : f_records = nI m) (m8 : m < 8) (H : post (f_maxHeight, f_pool, f_length, f_faulty, f_queued, f_kindHeight, f_status, f_position, f_height, nI (m + 1), f_choices, f_forks, a_ops, a_args, a_faultBits, a_heightBits, a_kindBits, a_leastSteps, a_queue, a_queueSteps, a_reached, a_kindStack, a_kindLocals, a_stack, a_locals, upd a_fields m 0)) : wpX_makeRecord post (f_maxHeight, f_pool, f_length, f_faulty, f_queued, f_kindHeight, f_status, f_position, f_height, f_records, f_choices, f_forks, a_ops, a_args, a_faultBits, a_heightBits, a_kindBits, a_leastSteps, a_queue, a_queueSteps, a_reached, a_kindStack, a_kindLocals, a_stack, a_locals, a_fields) := by
  subst hr
  refine br_f (nI_ge (b := 8) m8 (by decide)) ⟨vp_in_nI m8 (by decide), ?_⟩
  intro a ea b eb
  subst ea
  subst eb
  rw [nI_clamp (by omega), nI_1]
  exact H
theorem mx_isRecord {post : Int32 → Prop} {m j : Nat} (hr : f_records = nI m) (hj : j < m) (m8 : m ≤ 8) (H : post 1) : wpX_isRecord post (f_maxHeight, f_pool, f_length, f_faulty, f_queued, f_kindHeight, f_status, f_position, f_height, f_records, f_choices, f_forks, a_ops, a_args, a_faultBits, a_heightBits, a_kindBits, a_leastSteps, a_queue, a_queueSteps, a_reached, a_kindStack, a_kindLocals, a_stack, a_locals, a_fields) (nI j) := by
  subst hr
  exact br_f (nI_pos (by omega)) (br_f (nI_ge hj (by omega)) (br_f (nI_ge (b := 8) (by omega) (by decide)) H))
theorem mx_pushField {post : SX → Prop} {h m j : Nat} (hh : f_height = nI h) (h4 : h < 4) (hr : f_records = nI m) (hj : j < m) (m8 : m ≤ 8) (H : post (f_maxHeight, f_pool, f_length, f_faulty, f_queued, f_kindHeight, f_status, f_position, nI (h + 1), f_records, f_choices, f_forks, a_ops, a_args, a_faultBits, a_heightBits, a_kindBits, a_leastSteps, a_queue, a_queueSteps, a_reached, a_kindStack, a_kindLocals, upd a_stack h (a_fields j), a_locals, a_fields)) : wpX_pushField post (f_maxHeight, f_pool, f_length, f_faulty, f_queued, f_kindHeight, f_status, f_position, f_height, f_records, f_choices, f_forks, a_ops, a_args, a_faultBits, a_heightBits, a_kindBits, a_leastSteps, a_queue, a_queueSteps, a_reached, a_kindStack, a_kindLocals, a_stack, a_locals, a_fields) (nI j) := by
  unfold wpX_pushField
  refine mx_isRecord hr hj m8 (br_f (by decide) ⟨vp_in_nI (by omega) (by decide), ?_⟩)
  rw [nI_clamp (by omega)]
  exact mx_pushCell hh h4 H
theorem mx_writeField {post : SX → Prop} {m j : Nat} {x : Int32} (hr : f_records = nI m) (hj : j < m) (m8 : m ≤ 8) (H : post (f_maxHeight, f_pool, f_length, f_faulty, f_queued, f_kindHeight, f_status, f_position, f_height, f_records, f_choices, f_forks, a_ops, a_args, a_faultBits, a_heightBits, a_kindBits, a_leastSteps, a_queue, a_queueSteps, a_reached, a_kindStack, a_kindLocals, a_stack, a_locals, upd a_fields j x)) : wpX_writeField post (f_maxHeight, f_pool, f_length, f_faulty, f_queued, f_kindHeight, f_status, f_position, f_height, f_records, f_choices, f_forks, a_ops, a_args, a_faultBits, a_heightBits, a_kindBits, a_leastSteps, a_queue, a_queueSteps, a_reached, a_kindStack, a_kindLocals, a_stack, a_locals, a_fields) (nI j) x := by
  unfold wpX_writeField
  refine mx_isRecord hr hj m8 (br_f (by decide) ⟨vp_in_nI (by omega) (by decide), nm_e ?_⟩)
  rw [nI_clamp (by omega)]
  exact H
end
section
variable {g_greatest g_poolSize g_count g_doing g_pc g_tall g_made g_forks g_bits : Int32} {d_ops d_args d_reached d_fresh d_coming d_dist d_stack d_locals d_fields : Nat → Int32}
theorem my_pop {post : Int32 → SY → Prop} {h : Nat} (hh : g_tall = nI (h + 1)) (h4 : h < 4) (H : post (d_stack h) (g_greatest, g_poolSize, g_count, g_doing, g_pc, nI h, g_made, g_forks, g_bits, d_ops, d_args, d_reached, d_fresh, d_coming, d_dist, d_stack, d_locals, d_fields)) : wpY_pop post (g_greatest, g_poolSize, g_count, g_doing, g_pc, g_tall, g_made, g_forks, g_bits, d_ops, d_args, d_reached, d_fresh, d_coming, d_dist, d_stack, d_locals, d_fields) := by
  subst hh
  refine br_t (nI_lt (a := 0) (by omega) (by omega)) (nm_r (nI_pred h) ?_)
  rw [pj_and3 h4, nI_clamp (by omega)]
  exact ⟨vp_in_nI h4 (by decide), H⟩
theorem my_push {post : SY → Prop} {h : Nat} {x : Int32} (hh : g_tall = nI h) (h4 : h < 4) (H : post (g_greatest, g_poolSize, g_count, g_doing, g_pc, nI (h + 1), g_made, g_forks, g_bits, d_ops, d_args, d_reached, d_fresh, d_coming, d_dist, upd d_stack h x, d_locals, d_fields)) : wpY_push post (g_greatest, g_poolSize, g_count, g_doing, g_pc, g_tall, g_made, g_forks, g_bits, d_ops, d_args, d_reached, d_fresh, d_coming, d_dist, d_stack, d_locals, d_fields) x := by
  subst hh
  refine br_f (nI_ge (b := 4) h4 (by decide)) ?_
  rw [pj_and3 h4, nI_clamp (by omega), nI_1]
  exact ⟨vp_in_nI h4 (by decide), nm_e (nm_e H)⟩
theorem my_co0 {post : SY → Prop} {o p : Nat} {g : Int32} (ho : o ≤ 13) (hnd : pj_nd o = 0) (hp : g_pc = nI p) (H : wY_carryOut_48 post (nI o) g 0 0 (nI (p + 1)) g_greatest g_poolSize g_count g_doing g_pc g_tall g_made g_forks g_bits d_ops d_args d_reached d_fresh d_coming d_dist d_stack d_locals d_fields) : wpY_carryOut post (g_greatest, g_poolSize, g_count, g_doing, g_pc, g_tall, g_made, g_forks, g_bits, d_ops, d_args, d_reached, d_fresh, d_coming, d_dist, d_stack, d_locals, d_fields) (nI o) g := by
  unfold wpY_carryOut
  refine nm_r (e' := nI (p + 1)) (by rw [hp, nI_1]) (my_need ho ?_)
  rw [hnd]
  refine br_t (by decide) ?_
  unfold wY_carryOut_33
  refine my_need ho ?_
  rw [hnd]
  exact br_f (by decide) H
theorem my_co1 {post : SY → Prop} {o p h : Nat} {g : Int32} (ho : o ≤ 12) (hnd : pj_nd o = 1) (hp : g_pc = nI p) (hh : g_tall = nI (h + 1)) (h4 : h < 4) (H : wY_carryOut_48 post (nI o) g (d_stack h) 0 (nI (p + 1)) g_greatest g_poolSize g_count g_doing g_pc (nI h) g_made g_forks g_bits d_ops d_args d_reached d_fresh d_coming d_dist d_stack d_locals d_fields) : wpY_carryOut post (g_greatest, g_poolSize, g_count, g_doing, g_pc, g_tall, g_made, g_forks, g_bits, d_ops, d_args, d_reached, d_fresh, d_coming, d_dist, d_stack, d_locals, d_fields) (nI o) g := by
  unfold wpY_carryOut
  refine nm_r (e' := nI (p + 1)) (by rw [hp, nI_1]) (my_need (by omega) ?_)
  rw [hnd]
  refine br_f (by decide) (pk_eq o 13 (fun z => by omega) (fun _ => my_pop hh h4 ?_))
  unfold wY_carryOut_33
  refine my_need (by omega) ?_
  rw [hnd]
  exact br_f (by decide) H
theorem my_co2 {post : SY → Prop} {o p h : Nat} {g : Int32} (ho : o ≤ 12) (hnd : pj_nd o = 2) (hp : g_pc = nI p) (hh : g_tall = nI (h + 2)) (h4 : h + 1 < 4) (H : wY_carryOut_48 post (nI o) g (d_stack (h + 1)) (d_stack h) (nI (p + 1)) g_greatest g_poolSize g_count g_doing g_pc (nI h) g_made g_forks g_bits d_ops d_args d_reached d_fresh d_coming d_dist d_stack d_locals d_fields) : wpY_carryOut post (g_greatest, g_poolSize, g_count, g_doing, g_pc, g_tall, g_made, g_forks, g_bits, d_ops, d_args, d_reached, d_fresh, d_coming, d_dist, d_stack, d_locals, d_fields) (nI o) g := by
  unfold wpY_carryOut
  refine nm_r (e' := nI (p + 1)) (by rw [hp, nI_1]) (my_need (by omega) ?_)
  rw [hnd]
  refine br_f (by decide) (pk_eq o 13 (fun z => by omega) (fun _ => my_pop hh h4 ?_))
  unfold wY_carryOut_33
  refine my_need (by omega) ?_
  rw [hnd]
  exact br_t (by decide) (my_pop rfl (by omega) H)
end
section
variable {f_maxHeight f_pool f_length f_faulty f_queued f_kindHeight f_status f_position f_height f_records f_choices f_forks : Int32} {a_ops a_args a_faultBits a_heightBits a_kindBits a_leastSteps a_queue a_queueSteps a_reached a_kindStack a_kindLocals a_stack a_locals a_fields : Nat → Int32} {g_greatest g_poolSize g_count g_doing g_pc g_tall g_made g_forks g_bits : Int32} {d_ops d_args d_reached d_fresh d_coming d_dist d_stack d_locals d_fields : Nat → Int32}
theorem mm_op {o v a b m h p mh : Nat} {g : Int32} (ho : o ≤ 12) (h10 : o ≠ 10) (h11 : o ≠ 11) (hv : v < 121) (ha : a < 3) (hb : b < 3) (mh4 : mh ≤ 4) (k1 : pj_nd o ≤ pj_hg v) (k2 : (o = 0 ∨ o = 1 ∨ o = 3 ∨ o = 8) → pj_hg v < mh) (hkb : pj_kb o (pj_tp v) (pj_tp (pj_rs v)) = false) (hg : (o = 8 ∨ o = 9) → g = 0 ∨ g = 1) (hm : m ≤ 8) (hm1 : o = 1 → m < 8)
    (TV : pj_TV v h m a_stack) (TL : pj_TL a b m a_locals) (l0 : a_locals 0 = d_locals 0) (l1 : a_locals 1 = d_locals 1) :
    ∃ h' m' sta lo yl fie,
      (∀ post : SX → Prop, post (f_maxHeight, f_pool, f_length, f_faulty, f_queued, f_kindHeight, f_status, f_position, nI h', nI m', f_choices, f_forks, a_ops, a_args, a_faultBits, a_heightBits, a_kindBits, a_leastSteps, a_queue, a_queueSteps, a_reached, a_kindStack, a_kindLocals, sta, lo, fie) → wpX_changeCells post (f_maxHeight, f_pool, f_length, f_faulty, f_queued, f_kindHeight, f_status, f_position, nI h, nI m, f_choices, f_forks, a_ops, a_args, a_faultBits, a_heightBits, a_kindBits, a_leastSteps, a_queue, a_queueSteps, a_reached, a_kindStack, a_kindLocals, a_stack, a_locals, a_fields) (nI o) g) ∧
      (∀ post : SY → Prop, post (g_greatest, g_poolSize, g_count, g_doing, nI (p + 1), nI h', nI m', g_forks, g_bits, d_ops, d_args, d_reached, d_fresh, d_coming, d_dist, sta, yl, fie) → wpY_carryOut post (g_greatest, g_poolSize, g_count, g_doing, nI p, nI h, nI m, g_forks, g_bits, d_ops, d_args, d_reached, d_fresh, d_coming, d_dist, a_stack, d_locals, a_fields) (nI o) g) ∧
      lo 0 = yl 0 ∧ lo 1 = yl 1 ∧ h' ≤ 4 ∧ (o ≠ 1 → m' = m) ∧ (o = 1 → m' = m + 1) ∧ pj_TV (pj_chv o (decide (g = 0)) v a b) h' m' sta ∧ pj_TL (pj_cha o (decide (g = 0)) v a) (pj_chb o (decide (g = 0)) v b) m' lo := by
  have eh := TV.1
  have h4 : h ≤ 4 := by have := pj_hgle v; omega
  have h40 : (o = 0 ∨ o = 1 ∨ o = 3 ∨ o = 8) → v < 40 ∧ h < 4 := fun q => ⟨pj_hg40 (by have := k2 q; omega), by have := k2 q; omega⟩
  have rs40 := pj_rs40 hv
  have rs121 := pj_rs121 hv
  have rr40 := pj_rs40 rs121
  have tp3 := pj_tp3 v
  have tr3 := pj_tp3 (pj_rs v)
  rw [← eh] at k1
  rcases pj_o14 (show o ≤ 13 by omega) with rfl | rfl | rfl | rfl | rfl | rfl | rfl | rfl | rfl | rfl | rfl | rfl | rfl | rfl
  · obtain ⟨v40, hl⟩ := h40 (by omega)
    refine ⟨h + 1, m, upd a_stack h g, a_locals, d_locals, a_fields, fun post K => ?_, fun post K => ?_, l0, l1, by omega, fun _ => rfl, fun z => by omega, pj_TVpush TV v40 (k := 0) (by omega) (fun z => by omega), TL⟩
    · unfold wpX_changeCells
      refine mx_cb0 rfl h4 (fun r1 t1 => mx_cb1 rfl h4 (fun r2 t2 => ?_))
      (repeat (first | refine br_t (by decide) ?_ | refine br_f (by decide) ?_))
      exact mx_pushCell rfl hl K
    · refine my_co0 (by omega) rfl rfl ?_
      unfold wY_carryOut_48
      (repeat (first | refine br_t (by decide) ?_ | refine br_f (by decide) ?_))
      exact my_push rfl hl K
  · obtain ⟨v40, hl⟩ := h40 (by omega)
    have m8 := hm1 rfl
    refine ⟨h + 1, m + 1, upd a_stack h (nI m), a_locals, d_locals, upd a_fields m 0, fun post K => ?_, fun post K => ?_, l0, l1, by omega, fun z => by omega, fun _ => rfl, pj_TVpush (pj_TVm TV (by omega)) v40 (k := 1) (by omega) (fun _ => ⟨m, by omega, rfl⟩), pj_TLm TL (by omega)⟩
    · unfold wpX_changeCells
      refine mx_cb0 rfl h4 (fun r1 t1 => mx_cb1 rfl h4 (fun r2 t2 => ?_))
      (repeat (first | refine br_t (by decide) ?_ | refine br_f (by decide) ?_))
      exact mx_pushCell rfl hl (mx_makeRecord rfl m8 K)
    · refine my_co0 (by omega) rfl rfl ?_
      unfold wY_carryOut_48
      (repeat (first | refine br_t (by decide) ?_ | refine br_f (by decide) ?_))
      rw [pj_and7 m8]
      refine ⟨vp_in_nI m8 (by decide), nm_e ?_⟩
      rw [nI_clamp (by omega)]
      exact my_push rfl hl (nm_r (nI_1 m) K)
  · obtain ⟨h1, rfl⟩ : ∃ h1, h = h1 + 1 := ⟨h - 1, by have : 1 ≤ h := k1; omega⟩
    refine ⟨h1, m, a_stack, a_locals, d_locals, a_fields, fun post K => ?_, fun post K => ?_, l0, l1, by omega, fun _ => rfl, fun z => by omega, pj_TVpop TV hv, TL⟩
    · unfold wpX_changeCells
      refine mx_cb0 rfl h4 (fun r1 t1 => mx_cb1 rfl h4 (fun r2 t2 => ?_))
      (repeat (first | refine br_t (by decide) ?_ | refine br_f (by decide) ?_))
      exact mx_dropCells (c := 1) rfl rfl h4 K
    · refine my_co1 (by omega) rfl rfl rfl (by omega) ?_
      unfold wY_carryOut_48
      (repeat (first | refine br_t (by decide) ?_ | refine br_f (by decide) ?_))
      exact K
  · obtain ⟨v40, hl⟩ := h40 (by omega)
    obtain ⟨h1, rfl⟩ : ∃ h1, h = h1 + 1 := ⟨h - 1, by have : 1 ≤ h := k1; omega⟩
    refine ⟨h1 + 1 + 1, m, upd a_stack (h1 + 1) (a_stack h1), a_locals, d_locals, a_fields, fun post K => ?_, fun post K => ?_, l0, l1, by omega, fun _ => rfl, fun z => by omega, pj_TVpush TV v40 tp3 (fun z => pj_TVtop TV hv z), TL⟩
    · unfold wpX_changeCells
      refine mx_cb0 rfl h4 (fun r1 t1 => mx_cb1 rfl h4 (fun r2 t2 => ?_))
      rw [t1 h1 rfl]
      (repeat (first | refine br_t (by decide) ?_ | refine br_f (by decide) ?_))
      exact mx_pushCell rfl hl K
    · refine my_co1 (by omega) rfl rfl rfl (by omega) ?_
      unfold wY_carryOut_48
      (repeat (first | refine br_t (by decide) ?_ | refine br_f (by decide) ?_))
      refine my_push rfl (by omega) (my_push rfl hl ?_)
      rw [pj_updself]
      exact K
  · obtain ⟨h2, rfl⟩ : ∃ h2, h = h2 + 2 := ⟨h - 2, by have : 2 ≤ h := k1; omega⟩
    refine ⟨h2 + 1 + 1, m, upd (upd a_stack h2 (a_stack (h2 + 1))) (h2 + 1) (a_stack h2), a_locals, d_locals, a_fields, fun post K => ?_, fun post K => ?_, l0, l1, by omega, fun _ => rfl, fun z => by omega, pj_TVpush (pj_TVpush (pj_TVpop (pj_TVpop TV hv) rs121) rr40 tp3 (fun z => pj_TVtop TV hv z)) (by unfold pj_rs pj_tp; omega) tr3 (fun z => pj_TVtop (pj_TVpop TV hv) rs121 z), TL⟩
    · unfold wpX_changeCells
      refine mx_cb0 rfl h4 (fun r1 t1 => mx_cb1 rfl h4 (fun r2 t2 => ?_))
      rw [t1 (h2 + 1) rfl, t2 h2 rfl]
      (repeat (first | refine br_t (by decide) ?_ | refine br_f (by decide) ?_))
      exact mx_dropCells (c := 2) rfl rfl h4 (mx_pushCell rfl (by omega) (mx_pushCell rfl (by omega) K))
    · refine my_co2 (by omega) rfl rfl rfl (by omega) ?_
      unfold wY_carryOut_48
      (repeat (first | refine br_t (by decide) ?_ | refine br_f (by decide) ?_))
      exact my_push rfl (by omega) (my_push rfl (by omega) K)
  · obtain ⟨h2, rfl⟩ : ∃ h2, h = h2 + 2 := ⟨h - 2, by have : 2 ≤ h := k1; omega⟩
    refine ⟨h2 + 1, m, upd a_stack h2 (a_stack (h2 + 1) + a_stack h2), a_locals, d_locals, a_fields, fun post K => ?_, fun post K => ?_, l0, l1, by omega, fun _ => rfl, fun z => by omega, pj_TVpush (pj_TVpop (pj_TVpop TV hv) rs121) rr40 (k := 0) (by omega) (fun z => by omega), TL⟩
    · unfold wpX_changeCells
      refine mx_cb0 rfl h4 (fun r1 t1 => mx_cb1 rfl h4 (fun r2 t2 => ?_))
      rw [t1 (h2 + 1) rfl, t2 h2 rfl]
      (repeat (first | refine br_t (by decide) ?_ | refine br_f (by decide) ?_))
      exact mx_dropCells (c := 2) rfl rfl h4 (mx_pushCell rfl (by omega) K)
    · refine my_co2 (by omega) rfl rfl rfl (by omega) ?_
      unfold wY_carryOut_48
      (repeat (first | refine br_t (by decide) ?_ | refine br_f (by decide) ?_))
      exact my_push rfl (by omega) K
  · obtain ⟨h1, rfl⟩ : ∃ h1, h = h1 + 1 := ⟨h - 1, by have : 1 ≤ h := k1; omega⟩
    have t0 : pj_tp v = 1 := by have := of_decide_eq_false hkb; omega
    obtain ⟨j, hj, ej⟩ := pj_TVtop TV hv t0
    refine ⟨h1 + 1, m, upd a_stack h1 (a_fields j), a_locals, d_locals, a_fields, fun post K => ?_, fun post K => ?_, l0, l1, by omega, fun _ => rfl, fun z => by omega, pj_TVpush (pj_TVpop TV hv) rs40 (k := 0) (by omega) (fun z => by omega), TL⟩
    · unfold wpX_changeCells
      refine mx_cb0 rfl h4 (fun r1 t1 => mx_cb1 rfl h4 (fun r2 t2 => ?_))
      rw [t1 h1 rfl, ej]
      (repeat (first | refine br_t (by decide) ?_ | refine br_f (by decide) ?_))
      exact mx_dropCells (c := 1) rfl rfl h4 (mx_pushField rfl (by omega) rfl hj hm K)
    · refine my_co1 (by omega) rfl rfl rfl (by omega) ?_
      unfold wY_carryOut_48
      (repeat (first | refine br_t (by decide) ?_ | refine br_f (by decide) ?_))
      rw [ej, pj_and7 (by omega), nI_clamp (by omega)]
      exact ⟨vp_in_nI (by omega) (by decide), my_push rfl (by omega) K⟩
  · obtain ⟨h2, rfl⟩ : ∃ h2, h = h2 + 2 := ⟨h - 2, by have : 2 ≤ h := k1; omega⟩
    have t0 : pj_tp (pj_rs v) = 1 := by have := of_decide_eq_false hkb; omega
    obtain ⟨j, hj, ej⟩ := pj_TVtop (pj_TVpop TV hv) rs121 t0
    refine ⟨h2, m, a_stack, a_locals, d_locals, upd a_fields j (a_stack (h2 + 1)), fun post K => ?_, fun post K => ?_, l0, l1, by omega, fun _ => rfl, fun z => by omega, pj_TVpop (pj_TVpop TV hv) rs121, TL⟩
    · unfold wpX_changeCells
      refine mx_cb0 rfl h4 (fun r1 t1 => mx_cb1 rfl h4 (fun r2 t2 => ?_))
      rw [t1 (h2 + 1) rfl, t2 h2 rfl, ej]
      (repeat (first | refine br_t (by decide) ?_ | refine br_f (by decide) ?_))
      exact mx_dropCells (c := 2) rfl rfl h4 (mx_writeField rfl hj hm K)
    · refine my_co2 (by omega) rfl rfl rfl (by omega) ?_
      unfold wY_carryOut_48
      (repeat (first | refine br_t (by decide) ?_ | refine br_f (by decide) ?_))
      rw [ej, pj_and7 (by omega), nI_clamp (by omega)]
      exact ⟨vp_in_nI (by omega) (by decide), nm_e K⟩
  · obtain ⟨v40, hl⟩ := h40 (by omega)
    rcases hg (by omega) with rfl | rfl
    · refine ⟨h + 1, m, upd a_stack h (a_locals 0), a_locals, d_locals, a_fields, fun post K => ?_, fun post K => ?_, l0, l1, by omega, fun _ => rfl, fun z => by omega, pj_TVpush TV v40 (k := a) ha TL.1, TL⟩
      · unfold wpX_changeCells
        refine mx_cb0 rfl h4 (fun r1 t1 => mx_cb1 rfl h4 (fun r2 t2 => ?_))
        (repeat (first | refine br_t (by decide) ?_ | refine br_f (by decide) ?_))
        exact ⟨vp_in_iff.mpr (by decide), mx_pushCell rfl hl K⟩
      · refine my_co0 (by omega) rfl rfl ?_
        rw [l0] at K
        unfold wY_carryOut_48
        (repeat (first | refine br_t (by decide) ?_ | refine br_f (by decide) ?_))
        exact ⟨vp_in_iff.mpr (by decide), my_push rfl hl K⟩
    · refine ⟨h + 1, m, upd a_stack h (a_locals 1), a_locals, d_locals, a_fields, fun post K => ?_, fun post K => ?_, l0, l1, by omega, fun _ => rfl, fun z => by omega, pj_TVpush TV v40 (k := b) hb TL.2, TL⟩
      · unfold wpX_changeCells
        refine mx_cb0 rfl h4 (fun r1 t1 => mx_cb1 rfl h4 (fun r2 t2 => ?_))
        (repeat (first | refine br_t (by decide) ?_ | refine br_f (by decide) ?_))
        exact ⟨vp_in_iff.mpr (by decide), mx_pushCell rfl hl K⟩
      · refine my_co0 (by omega) rfl rfl ?_
        rw [l1] at K
        unfold wY_carryOut_48
        (repeat (first | refine br_t (by decide) ?_ | refine br_f (by decide) ?_))
        exact ⟨vp_in_iff.mpr (by decide), my_push rfl hl K⟩
  · obtain ⟨h1, rfl⟩ : ∃ h1, h = h1 + 1 := ⟨h - 1, by have : 1 ≤ h := k1; omega⟩
    rcases hg (by omega) with rfl | rfl
    · refine ⟨h1, m, a_stack, upd a_locals 0 (a_stack h1), upd d_locals 0 (a_stack h1), a_fields, fun post K => ?_, fun post K => ?_, by rw [pk_us, pk_us], by rw [pk_un (by decide), pk_un (by decide)]; exact l1, by omega, fun _ => rfl, fun z => by omega, pj_TVpop TV hv, ⟨fun z => by rw [pk_us]; exact pj_TVtop TV hv z, fun z => by rw [pk_un (by decide)]; exact TL.2 z⟩⟩
      · unfold wpX_changeCells
        refine mx_cb0 rfl h4 (fun r1 t1 => mx_cb1 rfl h4 (fun r2 t2 => ?_))
        rw [t1 h1 rfl]
        (repeat (first | refine br_t (by decide) ?_ | refine br_f (by decide) ?_))
        exact mx_dropCells (c := 1) rfl rfl h4 ⟨vp_in_iff.mpr (by decide), nm_e K⟩
      · refine my_co1 (by omega) rfl rfl rfl (by omega) ?_
        unfold wY_carryOut_48
        (repeat (first | refine br_t (by decide) ?_ | refine br_f (by decide) ?_))
        exact ⟨vp_in_iff.mpr (by decide), nm_e K⟩
    · refine ⟨h1, m, a_stack, upd a_locals 1 (a_stack h1), upd d_locals 1 (a_stack h1), a_fields, fun post K => ?_, fun post K => ?_, by rw [pk_un (by decide), pk_un (by decide)]; exact l0, by rw [pk_us, pk_us], by omega, fun _ => rfl, fun z => by omega, pj_TVpop TV hv, ⟨fun z => by rw [pk_un (by decide)]; exact TL.1 z, fun z => by rw [pk_us]; exact pj_TVtop TV hv z⟩⟩
      · unfold wpX_changeCells
        refine mx_cb0 rfl h4 (fun r1 t1 => mx_cb1 rfl h4 (fun r2 t2 => ?_))
        rw [t1 h1 rfl]
        (repeat (first | refine br_t (by decide) ?_ | refine br_f (by decide) ?_))
        exact mx_dropCells (c := 1) rfl rfl h4 ⟨vp_in_iff.mpr (by decide), nm_e K⟩
      · refine my_co1 (by omega) rfl rfl rfl (by omega) ?_
        unfold wY_carryOut_48
        (repeat (first | refine br_t (by decide) ?_ | refine br_f (by decide) ?_))
        exact ⟨vp_in_iff.mpr (by decide), nm_e K⟩
  · exact absurd rfl h10
  · exact absurd rfl h11
  · obtain ⟨h2, rfl⟩ : ∃ h2, h = h2 + 2 := ⟨h - 2, by have : 2 ≤ h := k1; omega⟩
    refine ⟨h2 + 1, m, upd a_stack h2 (if a_stack (h2 + 1) = a_stack h2 then 1 else 0), a_locals, d_locals, a_fields, fun post K => ?_, fun post K => ?_, l0, l1, by omega, fun _ => rfl, fun z => by omega, pj_TVpush (pj_TVpop (pj_TVpop TV hv) rs121) rr40 (k := 0) (by omega) (fun z => by omega), TL⟩
    · unfold wpX_changeCells
      refine mx_cb0 rfl h4 (fun r1 t1 => mx_cb1 rfl h4 (fun r2 t2 => ?_))
      rw [t1 (h2 + 1) rfl, t2 h2 rfl]
      (repeat (first | refine br_t (by decide) ?_ | refine br_f (by decide) ?_))
      refine mx_dropCells (c := 2) rfl rfl h4 (br_c (fun c => ?_) (fun c => ?_))
      · rw [if_pos c] at K
        exact mx_pushCell rfl (by omega) K
      · rw [if_neg c] at K
        exact mx_pushCell rfl (by omega) K
    · refine my_co2 (by omega) rfl rfl rfl (by omega) ?_
      unfold wY_carryOut_48
      (repeat (first | refine br_t (by decide) ?_ | refine br_f (by decide) ?_))
      refine br_c (fun c => ?_) (fun c => ?_)
      · rw [if_pos c] at K
        exact my_push rfl (by omega) K
      · rw [if_neg c] at K
        exact my_push rfl (by omega) K
  · omega
end
end
section
/-! the machine: one instruction on both sides -/
theorem pj_fl0 {n mh o p : Nat} {g : Int32} {s : Nat} (h : pj_fl n mh o p g s = 0) : pj_sk mh o s = 0 ∧ pj_kb o (pj_tp (s / 9)) (pj_tp (pj_rs (s / 9))) = false ∧ pj_lv n o p g = false := by
  unfold pj_fl at h
  by_cases c : pj_sk mh o s = 0
  · rw [if_neg (by omega)] at h
    refine ⟨c, ?_, ?_⟩
    · cases e : pj_kb o (pj_tp (s / 9)) (pj_tp (pj_rs (s / 9)))
      · rfl
      · rw [e, if_pos rfl] at h
        omega
    · cases e : pj_lv n o p g
      · rfl
      · rw [e, if_pos rfl] at h
        omega
  · rw [if_pos c] at h
    exact absurd h c
theorem pj_fork (x : Int32) : ((x &&& 31) + 1) &&& 31 = (x + 1) &&& 31 := by
  have e1 : x &&& 31 = nI (x.toBitVec.toNat % 32) := pk_and x 5 (by decide)
  rw [e1, nI_1, pk_and _ 5 (by decide), pk_and (x + 1) 5 (by decide), pk_tn (by omega), Int32.toBitVec_add, BitVec.toNat_add]
  have e2 : (1 : Int32).toBitVec.toNat = 1 := by decide
  rw [e2]
  generalize x.toBitVec.toNat = y
  have e3 : (y % 32 + 1) % 2 ^ 5 = (y + 1) % 2 ^ 32 % 2 ^ 5 := by omega
  rw [e3]
theorem pj_ubit (x : Int32) {t : Nat} (ht : t < 32) : ((x.toUInt32 >>> ((nI t).toUInt32 &&& Int32.toUInt32 31)).toInt32 &&& 1) = 1 ↔ bt x t = true := by
  have e : bt ((x.toUInt32 >>> ((nI t).toUInt32 &&& Int32.toUInt32 31)).toInt32) 0 = bt x t := by rw [b_ushr t ht x 0]; rfl
  constructor
  · intro h
    have h1 : bt ((x.toUInt32 >>> ((nI t).toUInt32 &&& Int32.toUInt32 31)).toInt32 &&& 1) 0 = bt 1 0 := by rw [h]
    rw [b_and, e, pj_b1 0 (by omega)] at h1
    simpa using h1
  · intro h
    apply b_ext
    intro i hi
    rw [b_and, pj_b1 i hi]
    by_cases c : i = 0
    · subst c
      rw [e, h]
      rfl
    · rw [decide_eq_false c, Bool.and_false]
section
variable {f_maxHeight f_pool f_length f_faulty f_queued f_kindHeight f_status f_position f_height f_records f_choices f_forks : Int32} {a_ops a_args a_faultBits a_heightBits a_kindBits a_leastSteps a_queue a_queueSteps a_reached a_kindStack a_kindLocals a_stack a_locals a_fields : Nat → Int32} {g_greatest g_poolSize g_count g_doing g_pc g_tall g_made g_forks g_bits : Int32} {d_ops d_args d_reached d_fresh d_coming d_dist d_stack d_locals d_fields : Nat → Int32} {n mh pl p h m : Nat} {O : Nat → Nat} {G : Nat → Int32}
theorem mx_nop {post : SX → Prop} {o : Nat} {g : Int32} (ho : o = 10 ∨ o = 11) (hh : f_height = nI h) (h4 : h ≤ 4) (H : post (f_maxHeight, f_pool, f_length, f_faulty, f_queued, f_kindHeight, f_status, f_position, f_height, f_records, f_choices, f_forks, a_ops, a_args, a_faultBits, a_heightBits, a_kindBits, a_leastSteps, a_queue, a_queueSteps, a_reached, a_kindStack, a_kindLocals, a_stack, a_locals, a_fields)) : wpX_changeCells post (f_maxHeight, f_pool, f_length, f_faulty, f_queued, f_kindHeight, f_status, f_position, f_height, f_records, f_choices, f_forks, a_ops, a_args, a_faultBits, a_heightBits, a_kindBits, a_leastSteps, a_queue, a_queueSteps, a_reached, a_kindStack, a_kindLocals, a_stack, a_locals, a_fields) (nI o) g := by
  unfold wpX_changeCells
  refine mx_cb0 hh h4 (fun r1 t1 => mx_cb1 hh h4 (fun r2 t2 => ?_))
  rcases ho with rfl | rfl
  · (repeat (first | refine br_t (by decide) ?_ | refine br_f (by decide) ?_))
    exact H
  · (repeat (first | refine br_t (by decide) ?_ | refine br_f (by decide) ?_))
    exact H
theorem mm_X {post : Int32 → SX → Prop} (hn : n ≤ 16) (hp : p < n) (H3 : O p = 1 → pl ≤ m → post 0 (f_maxHeight, nI pl, nI n, f_faulty, f_queued, f_kindHeight, 3, nI p, f_height, nI m, f_choices, f_forks, pj_nF O, G, a_faultBits, a_heightBits, a_kindBits, a_leastSteps, a_queue, a_queueSteps, a_reached, a_kindStack, a_kindLocals, a_stack, a_locals, a_fields)) (pl8 : pl ≤ 8) (m8 : m ≤ 8)
    (H : ¬ (O p = 1 ∧ pl ≤ m) → wX_carryOut_64 post (nI (O p)) (G p) f_maxHeight (nI pl) (nI n) f_faulty f_queued f_kindHeight (1) (nI p) f_height (nI m) f_choices f_forks (pj_nF O) (G) a_faultBits a_heightBits a_kindBits a_leastSteps a_queue a_queueSteps a_reached a_kindStack a_kindLocals a_stack a_locals a_fields) (ho : O p ≤ 13) : wpX_carryOut post (f_maxHeight, nI pl, nI n, f_faulty, f_queued, f_kindHeight, 1, nI p, f_height, nI m, f_choices, f_forks, pj_nF O, G, a_faultBits, a_heightBits, a_kindBits, a_leastSteps, a_queue, a_queueSteps, a_reached, a_kindStack, a_kindLocals, a_stack, a_locals, a_fields) := by
  unfold wpX_carryOut
  refine br_t rfl (mx_isPos (n := n) hn rfl (fun z => ?_) (fun j hj ej => br_f (by decide) ?_))
  · rcases z with z | z
    · exact absurd z (nI_pos (by omega))
    · exact absurd z (nI_ge hp (by omega))
  · have hin := vp_in_nI (n := p) (N := 16) (by omega) (by decide)
    refine ⟨hin, nm_r (e' := nI (O p)) (by rw [nI_clamp (by omega)]; rfl) ⟨hin, nm_r (e' := G p) (by rw [nI_clamp (by omega)]) ?_⟩⟩
    refine pk_eq (O p) 1 (fun o1 => pk_lt m pl (fun hlt => H (by omega)) (fun hge => H3 o1 hge)) (fun o1 => H (fun z => o1 z.1))
/-- one instruction of a running machine, on both sides -/
theorem mm_carry (W : pj_PG n mh O G) (pl8 : pl ≤ 8) (hm : m ≤ pl) (h4 : h ≤ 4) (l0 : a_locals 0 = d_locals 0) (l1 : a_locals 1 = d_locals 1) (T : pj_T n mh O G p h m a_stack a_locals) :
    p < n ∧ O p ≤ 13 ∧
    ((O p = 1 ∧ pl ≤ m ∧ ∀ post : Int32 → SX → Prop, post 0 (nI mh, nI pl, nI n, f_faulty, f_queued, f_kindHeight, 3, nI p, nI h, nI m, f_choices, g_forks &&& 31, pj_nF O, G, a_faultBits, a_heightBits, a_kindBits, a_leastSteps, a_queue, a_queueSteps, a_reached, a_kindStack, a_kindLocals, a_stack, a_locals, a_fields) → wpX_carryOut post (nI mh, nI pl, nI n, f_faulty, f_queued, f_kindHeight, 1, nI p, nI h, nI m, f_choices, g_forks &&& 31, pj_nF O, G, a_faultBits, a_heightBits, a_kindBits, a_leastSteps, a_queue, a_queueSteps, a_reached, a_kindStack, a_kindLocals, a_stack, a_locals, a_fields)) ∨
     (¬ (O p = 1 ∧ pl ≤ m) ∧
      ((∀ post : Int32 → SX → Prop, post 1 (nI mh, nI pl, nI n, f_faulty, f_queued, f_kindHeight, 2, nI p, nI h, nI m, f_choices, g_forks &&& 31, pj_nF O, G, a_faultBits, a_heightBits, a_kindBits, a_leastSteps, a_queue, a_queueSteps, a_reached, a_kindStack, a_kindLocals, a_stack, a_locals, a_fields) → wpX_carryOut post (nI mh, nI pl, nI n, f_faulty, f_queued, f_kindHeight, 1, nI p, nI h, nI m, f_choices, g_forks &&& 31, pj_nF O, G, a_faultBits, a_heightBits, a_kindBits, a_leastSteps, a_queue, a_queueSteps, a_reached, a_kindStack, a_kindLocals, a_stack, a_locals, a_fields)) ∧
       (∀ post : SY → Prop, post (nI mh, nI pl, nI n, 2, nI p, nI h, nI m, g_forks, f_choices, pj_nF O, G, d_reached, d_fresh, d_coming, d_dist, a_stack, d_locals, a_fields) → wpY_carryOut post (nI mh, nI pl, nI n, 1, nI p, nI h, nI m, g_forks, f_choices, pj_nF O, G, d_reached, d_fresh, d_coming, d_dist, a_stack, d_locals, a_fields) (nI (O p)) (G p)))) ∨
     (¬ (O p = 1 ∧ pl ≤ m) ∧ ∃ p' h' m' yf sta lo yl fie, h' ≤ 4 ∧ m' ≤ pl ∧ lo 0 = yl 0 ∧ lo 1 = yl 1 ∧ pj_T n mh O G p' h' m' sta lo ∧
       (∀ post : Int32 → SX → Prop, post 1 (nI mh, nI pl, nI n, f_faulty, f_queued, f_kindHeight, 1, nI p', nI h', nI m', f_choices, yf &&& 31, pj_nF O, G, a_faultBits, a_heightBits, a_kindBits, a_leastSteps, a_queue, a_queueSteps, a_reached, a_kindStack, a_kindLocals, sta, lo, fie) → wpX_carryOut post (nI mh, nI pl, nI n, f_faulty, f_queued, f_kindHeight, 1, nI p, nI h, nI m, f_choices, g_forks &&& 31, pj_nF O, G, a_faultBits, a_heightBits, a_kindBits, a_leastSteps, a_queue, a_queueSteps, a_reached, a_kindStack, a_kindLocals, a_stack, a_locals, a_fields)) ∧
       (∀ post : SY → Prop, post (nI mh, nI pl, nI n, 1, nI p', nI h', nI m', yf, f_choices, pj_nF O, G, d_reached, d_fresh, d_coming, d_dist, sta, yl, fie) → wpY_carryOut post (nI mh, nI pl, nI n, 1, nI p, nI h, nI m, g_forks, f_choices, pj_nF O, G, d_reached, d_fresh, d_coming, d_dist, a_stack, d_locals, a_fields) (nI (O p)) (G p)))) := by
  obtain ⟨hS, s, ⟨k, hD⟩, TV, TL⟩ := T
  have hl := pj_Dlt W _ _ _ hD
  have hp := hl.1
  have hs := hl.2
  have hn := W.1
  have m4 := W.2.2.1
  have ho := W.2.2.2.1 p hp
  obtain ⟨sk0, kb0, lv0⟩ := pj_fl0 (hS p s ⟨k, hD⟩)
  obtain ⟨k1, k2⟩ := pj_sk0 sk0
  have lv := of_decide_eq_false lv0
  have next : O p ≠ 10 → O p ≠ 13 → p + 1 < n := fun a b => Nat.lt_of_not_le (fun z => lv (Or.inr ⟨a, b, z⟩))
  have RcS : ∀ q, q < n → (((O p = 10 ∨ O p = 11) ∧ G p = nI q) ∨ (O p ≠ 10 ∧ O p ≠ 13 ∧ q = p + 1)) → pj_Rc n mh O G q (pj_ch (O p) (decide (G p = 0)) s) := fun q hq h => ⟨k + 1, p, s, hD, hq, sk0, rfl, h⟩
  have mkT : ∀ q h' m' sta lo, q < n → (((O p = 10 ∨ O p = 11) ∧ G p = nI q) ∨ (O p ≠ 10 ∧ O p ≠ 13 ∧ q = p + 1)) → pj_TV (pj_chv (O p) (decide (G p = 0)) (s / 9) (s / 3 % 3) (s % 3)) h' m' sta → pj_TL (pj_cha (O p) (decide (G p = 0)) (s / 9) (s / 3 % 3)) (pj_chb (O p) (decide (G p = 0)) (s / 9) (s % 3)) m' lo → pj_T n mh O G q h' m' sta lo := fun q h' m' sta lo hq hst a b => by
    refine ⟨hS, _, RcS q hq hst, ?_, ?_⟩
    · rw [pj_ch_v.1]
      exact a
    · rw [pj_ch_v.2.1, pj_ch_v.2.2]
      exact b
  refine ⟨hp, ho, ?_⟩
  by_cases ex : O p = 1 ∧ pl ≤ m
  · exact Or.inl ⟨ex.1, ex.2, fun post K => mm_X hn hp (fun _ _ => K) pl8 (by omega) (fun z => absurd ex z) ho⟩
  · by_cases st : O p = 13
    · refine Or.inr (Or.inl ⟨ex, fun post K => mm_X hn hp (fun a b => absurd ⟨a, b⟩ ex) pl8 (by omega) (fun _ => ?_) ho, fun post K => ?_⟩)
      · rw [st]
        exact br_t (by decide) K
      · rw [st]
        unfold wpY_carryOut
        refine nm_e (my_need (by omega) ?_)
        refine br_f (by decide) (br_t (by decide) ?_)
        unfold wY_carryOut_33
        refine my_need (by omega) ?_
        refine br_f (by decide) ?_
        unfold wY_carryOut_48
        (repeat (first | refine br_t (by decide) ?_ | refine br_f (by decide) ?_))
        exact K
    · refine Or.inr (Or.inr ⟨ex, ?_⟩)
      by_cases o10 : O p = 10
      · have inr : ∃ j, j < n ∧ G p = nI j := by
          rcases pk_ix (G p) (n := n) (by omega) with z | z | z
          · exact absurd (Or.inl ⟨Or.inl o10, Or.inl z⟩) lv
          · exact absurd (Or.inl ⟨Or.inl o10, Or.inr z⟩) lv
          · exact z
        obtain ⟨j, hj, ej⟩ := inr
        have T' := mkT j h m a_stack a_locals hj (Or.inl ⟨Or.inl o10, ej⟩) (by rw [o10]; exact TV) (by rw [o10]; exact TL)
        refine ⟨j, h, m, g_forks, a_stack, a_locals, d_locals, a_fields, h4, hm, l0, l1, T', fun post K => mm_X hn hp (fun a b => absurd ⟨a, b⟩ ex) pl8 (by omega) (fun _ => ?_) ho, fun post K => ?_⟩
        · rw [o10, ej]
          refine br_f (by decide) (mx_nop (Or.inl rfl) rfl h4 (br_t (by decide) (br_f (by decide) K)))
        · rw [o10, ej]
          refine my_co0 (by omega) rfl rfl ?_
          unfold wY_carryOut_48
          (repeat (first | refine br_t (by decide) ?_ | refine br_f (by decide) ?_))
          exact K
      · by_cases o11 : O p = 11
        · have inr : ∃ j, j < n ∧ G p = nI j := by
            rcases pk_ix (G p) (n := n) (by omega) with z | z | z
            · exact absurd (Or.inl ⟨Or.inr o11, Or.inl z⟩) lv
            · exact absurd (Or.inl ⟨Or.inr o11, Or.inr z⟩) lv
            · exact z
          obtain ⟨j, hj, ej⟩ := inr
          have hp1 := next o10 st
          obtain ⟨t, ht, et⟩ := pk_andE g_forks (m := 31) 5 (by decide)
          have ht' : t < 32 := ht
          by_cases c : bt f_choices t = true
          · have T' := mkT j h m a_stack a_locals hj (Or.inl ⟨Or.inr o11, ej⟩) (by rw [o11]; exact TV) (by rw [o11]; exact TL)
            refine ⟨j, h, m, g_forks + 1, a_stack, a_locals, d_locals, a_fields, h4, hm, l0, l1, T', fun post K => mm_X hn hp (fun a b => absurd ⟨a, b⟩ ex) pl8 (by omega) (fun _ => ?_) ho, fun post K => ?_⟩
            · rw [o11, ej]
              refine br_f (by decide) (mx_nop (Or.inr rfl) rfl h4 (br_f (by decide) (br_t (by decide) ?_)))
              unfold wpX_takeChoice
              refine br_t ?_ (nm_r (pj_fork g_forks) ⟨rfl, br_f (by decide) (br_f (by decide) K)⟩)
              rw [et]
              exact (pj_ubit _ ht').mpr c
            · rw [o11, ej]
              refine my_co0 (by omega) rfl rfl ?_
              unfold wY_carryOut_48
              (repeat (first | refine br_t (by decide) ?_ | refine br_f (by decide) ?_))
              refine br_t ?_ (nm_e K)
              rw [et]
              exact (pj_bit _ ht').mpr c
          · have T' := mkT (p + 1) h m a_stack a_locals hp1 (Or.inr ⟨o10, st, rfl⟩) (by rw [o11]; exact TV) (by rw [o11]; exact TL)
            refine ⟨p + 1, h, m, g_forks + 1, a_stack, a_locals, d_locals, a_fields, h4, hm, l0, l1, T', fun post K => mm_X hn hp (fun a b => absurd ⟨a, b⟩ ex) pl8 (by omega) (fun _ => ?_) ho, fun post K => ?_⟩
            · rw [o11, ej]
              refine br_f (by decide) (mx_nop (Or.inr rfl) rfl h4 (br_f (by decide) (br_t (by decide) ?_)))
              unfold wpX_takeChoice
              refine br_f ?_ (nm_r (pj_fork g_forks) ⟨rfl, br_t rfl (br_t rfl (nm_r (nI_1 p) K))⟩)
              rw [et]
              exact fun z => c ((pj_ubit _ ht').mp z)
            · rw [o11, ej]
              refine my_co0 (by omega) rfl rfl ?_
              unfold wY_carryOut_48
              (repeat (first | refine br_t (by decide) ?_ | refine br_f (by decide) ?_))
              refine br_f ?_ (nm_e K)
              rw [et]
              exact fun z => c ((pj_bit _ ht').mp z)
        · have hp1 := next o10 st
          obtain ⟨h', m', sta, lo, yl, fie, KX, KY, q0, q1, q4, qm, qm1, qV, qL⟩ := mm_op (p := p) (mh := mh) (g := G p) (f_maxHeight := nI mh) (f_pool := nI pl) (f_length := nI n) (f_faulty := f_faulty) (f_queued := f_queued) (f_kindHeight := f_kindHeight) (f_status := 1) (f_position := nI p) (f_choices := f_choices) (f_forks := g_forks &&& 31) (a_ops := pj_nF O) (a_args := G) (a_faultBits := a_faultBits) (a_heightBits := a_heightBits) (a_kindBits := a_kindBits) (a_leastSteps := a_leastSteps) (a_queue := a_queue) (a_queueSteps := a_queueSteps) (a_reached := a_reached) (a_kindStack := a_kindStack) (a_kindLocals := a_kindLocals) (a_stack := a_stack) (a_locals := a_locals) (a_fields := a_fields) (g_greatest := nI mh) (g_poolSize := nI pl) (g_count := nI n) (g_doing := 1) (g_forks := g_forks) (g_bits := f_choices) (d_ops := pj_nF O) (d_args := G) (d_reached := d_reached) (d_fresh := d_fresh) (d_coming := d_coming) (d_dist := d_dist) (d_locals := d_locals) (o := O p) (by omega) o10 o11 (show s / 9 < 121 by omega) (show s / 3 % 3 < 3 by omega) (show s % 3 < 3 by omega) m4 k1 k2 kb0 (W.2.2.2.2 p hp) (by omega) (fun z => by omega) TV TL l0 l1
          refine ⟨p + 1, h', m', g_forks, sta, lo, yl, fie, q4, ?_, q0, q1, mkT (p + 1) h' m' sta lo hp1 (Or.inr ⟨o10, st, rfl⟩) qV qL, fun post K => mm_X hn hp (fun a b => absurd ⟨a, b⟩ ex) pl8 (by omega) (fun _ => ?_) ho, fun post K => KY post K⟩
          · by_cases e1 : O p = 1
            · rw [qm1 e1]; omega
            · rw [qm e1]; exact hm
          · have n13 : ¬ nI (O p) = 13 := fun z => st ((nI_eq (by omega) (by omega)).mp z)
            have n10 : ¬ nI (O p) = 10 := fun z => o10 ((nI_eq (by omega) (by omega)).mp z)
            have n11 : ¬ nI (O p) = 11 := fun z => o11 ((nI_eq (by omega) (by omega)).mp z)
            refine br_f n13 (KX _ (br_f n10 (br_f n11 (br_t rfl (nm_r (nI_1 p) K)))))
end
end
section
/-! step, and the end -/
section
variable {f_maxHeight f_pool f_length f_faulty f_queued f_kindHeight f_status f_position f_height f_records f_choices f_forks : Int32} {a_ops a_args a_faultBits a_heightBits a_kindBits a_leastSteps a_queue a_queueSteps a_reached a_kindStack a_kindLocals a_stack a_locals a_fields : Nat → Int32} {g_greatest g_poolSize g_count g_doing g_pc g_tall g_made g_forks g_bits : Int32} {d_ops d_args d_reached d_fresh d_coming d_dist d_stack d_locals d_fields : Nat → Int32} {n mh pl : Nat} {O : Nat → Nat} {G : Nat → Int32}
theorem mx_halt {post : Int32 → SX → Prop} {L i d : Nat} (hL : L ≤ 64) (hi : i ≤ L) (hst : f_status ≠ 1) (H : post (nI i) (f_maxHeight, f_pool, f_length, f_faulty, f_queued, f_kindHeight, f_status, f_position, f_height, f_records, f_choices, f_forks, a_ops, a_args, a_faultBits, a_heightBits, a_kindBits, a_leastSteps, a_queue, a_queueSteps, a_reached, a_kindStack, a_kindLocals, a_stack, a_locals, a_fields)) : wX_step_10 post (nI L) (d + 1) (nI i) f_maxHeight f_pool f_length f_faulty f_queued f_kindHeight f_status f_position f_height f_records f_choices f_forks a_ops a_args a_faultBits a_heightBits a_kindBits a_leastSteps a_queue a_queueSteps a_reached a_kindStack a_kindLocals a_stack a_locals a_fields := by
  refine pk_le L i (fun h => ?_) (fun h => br_f hst (br_t rfl H))
  have e : L = i := by omega
  rw [e]
  exact H
theorem my_halt {post : Int32 → SY → Prop} {L k d : Nat} {x : Int32} (hst : g_doing ≠ 1) (H : post x (g_greatest, g_poolSize, g_count, g_doing, g_pc, g_tall, g_made, g_forks, g_bits, d_ops, d_args, d_reached, d_fresh, d_coming, d_dist, d_stack, d_locals, d_fields)) : wY_step_26 post (nI L) (d + 1) x (nI k) g_greatest g_poolSize g_count g_doing g_pc g_tall g_made g_forks g_bits d_ops d_args d_reached d_fresh d_coming d_dist d_stack d_locals d_fields := br_c (fun _ => H) (fun _ => br_f hst H)
theorem mm_loop (W : pj_PG n mh O G) (p1 : 1 ≤ pl) (p8 : pl ≤ 8) (S : pj_SQ f_queued a_queue a_queueSteps a_reached) (CX : 0 < n → pj_CX n mh O G f_faulty a_faultBits a_heightBits a_kindBits a_leastSteps) (CY : pj_CY n mh O G d_reached d_dist) {L : Nat} (hL : L ≤ 64) :
    ∀ d i p h m yf sta lo yl fie, i + d = L → h ≤ 4 → m ≤ pl → lo 0 = yl 0 → lo 1 = yl 1 → pj_T n mh O G p h m sta lo →
      ∃ r u' v', i_Rel 0 u' v' ∧
        (∀ post : Int32 → SX → Prop, post r u' → wX_step_10 post (nI L) (d + 1) (nI i) (nI mh) (nI pl) (nI n) f_faulty f_queued f_kindHeight (1) (nI p) (nI h) (nI m) f_choices (yf &&& 31) (pj_nF O) (G) a_faultBits a_heightBits a_kindBits a_leastSteps a_queue a_queueSteps a_reached a_kindStack a_kindLocals (sta) (lo) (fie)) ∧
        (∀ post : Int32 → SY → Prop, post r v' → wY_step_26 post (nI L) (d + 1) (nI i) (nI i) (nI mh) (nI pl) (nI n) (1) (nI p) (nI h) (nI m) (yf) (f_choices) (pj_nF O) (G) d_reached d_fresh d_coming d_dist (sta) (yl) (fie)) := by
  have hn := W.1
  intro d
  induction d with
  | zero =>
    intro i p h m yf sta lo yl fie hi h4 hm l0 l1 T
    have e : i = L := by omega
    subst e
    have hp : p < 16 := by
      obtain ⟨_, s, hs, _⟩ := T
      have := (pj_Rlt W hs).1
      omega
    refine ⟨nI i, (nI mh, nI pl, nI n, f_faulty, f_queued, f_kindHeight, 1, nI p, nI h, nI m, f_choices, yf &&& 31, pj_nF O, G, a_faultBits, a_heightBits, a_kindBits, a_leastSteps, a_queue, a_queueSteps, a_reached, a_kindStack, a_kindLocals, sta, lo, fie), (nI mh, nI pl, nI n, 1, nI p, nI h, nI m, yf, f_choices, pj_nF O, G, d_reached, d_fresh, d_coming, d_dist, sta, yl, fie), ⟨n, mh, pl, O, G, _, _, _, _, _, _, _, _, _, _, _, _, _, _, _, _, _, _, _, _, _, _, _, _, _, _, _, _, _, _, rfl, rfl, W, p1, p8, S, CX, CY, Or.inr ⟨by decide, p, h, m, rfl, rfl, rfl, rfl, rfl, rfl, rfl, l0, l1, hp, h4, hm, fun _ => T⟩⟩, fun post K => ?_, fun post K => ?_⟩
    · exact br_t (nI_le (Nat.le_refl _) (by omega)) K
    · exact br_t (nI_le (Nat.le_refl _) (by omega)) K
  | succ d ih =>
    intro i p h m yf sta lo yl fie hi h4 hm l0 l1 T
    obtain ⟨hp, ho, hc⟩ := mm_carry (f_faulty := f_faulty) (f_queued := f_queued) (f_kindHeight := f_kindHeight) (f_choices := f_choices) (a_faultBits := a_faultBits) (a_heightBits := a_heightBits) (a_kindBits := a_kindBits) (a_leastSteps := a_leastSteps) (a_queue := a_queue) (a_queueSteps := a_queueSteps) (a_reached := a_reached) (a_kindStack := a_kindStack) (a_kindLocals := a_kindLocals) (a_stack := sta) (a_locals := lo) (a_fields := fie) (g_forks := yf) (d_reached := d_reached) (d_fresh := d_fresh) (d_coming := d_coming) (d_dist := d_dist) (d_locals := yl) W p8 hm h4 l0 l1 T
    have hin := vp_in_nI (n := p) (N := 16) (by omega) (by decide)
    have hnl : ¬ nI L ≤ nI i := nI_ge (by omega) (by omega)
    have eo : pj_nF O (nI p &&& 15).toNatClampNeg = nI (O p) := by rw [pj_and15 (by omega), nI_clamp (by omega)]; rfl
    have eg : G (nI p &&& 15).toNatClampNeg = G p := by rw [pj_and15 (by omega), nI_clamp (by omega)]
    have hin' : vp_in (nI p &&& 15) 16 := by rw [pj_and15 (by omega)]; exact hin
    have y75 : ¬ (O p = 1 ∧ pl ≤ m) → ∀ post : Int32 → SY → Prop, wY_step_75 post (wY_step_26 post (nI L) (d + 1)) (nI L) (nI i) (nI i) (nI mh) (nI pl) (nI n) (1) (nI p) (nI h) (nI m) (yf) (f_choices) (pj_nF O) (G) d_reached d_fresh d_coming d_dist (sta) (yl) (fie) → wY_step_26 post (nI L) (d + 1 + 1) (nI i) (nI i) (nI mh) (nI pl) (nI n) (1) (nI p) (nI h) (nI m) (yf) (f_choices) (pj_nF O) (G) d_reached d_fresh d_coming d_dist (sta) (yl) (fie) := fun ex post K => by
      refine br_f hnl (br_t rfl ⟨hin', ?_⟩)
      rw [eo]
      exact pk_eq (O p) 1 (fun o1 => br_t (nI_lt (by omega) (by omega)) K) (fun _ => K)
    rcases hc with ⟨o1, hge, KX⟩ | ⟨ex, KX, KY⟩ | ⟨ex, p', h', m', yf', sta', lo', yl', fie', q4, qm, q0, q1, T', KX, KY⟩
    · refine ⟨nI i, (nI mh, nI pl, nI n, f_faulty, f_queued, f_kindHeight, 3, nI p, nI h, nI m, f_choices, yf &&& 31, pj_nF O, G, a_faultBits, a_heightBits, a_kindBits, a_leastSteps, a_queue, a_queueSteps, a_reached, a_kindStack, a_kindLocals, sta, lo, fie), (nI mh, nI pl, nI n, 3, nI p, nI h, nI m, yf, f_choices, pj_nF O, G, d_reached, d_fresh, d_coming, d_dist, sta, yl, fie), ⟨n, mh, pl, O, G, _, _, _, _, _, _, _, _, _, _, _, _, _, _, _, _, _, _, _, _, _, _, _, _, _, _, _, _, _, _, rfl, rfl, W, p1, p8, S, CX, CY, Or.inr ⟨by decide, p, h, m, rfl, rfl, rfl, rfl, rfl, rfl, rfl, l0, l1, by omega, h4, hm, fun z => absurd z (by decide)⟩⟩, fun post K => br_f hnl (KX _ (br_t rfl K)), fun post K => ?_⟩
      refine br_f hnl (br_t rfl ⟨hin', ?_⟩)
      rw [eo]
      refine br_t (by rw [o1]; rfl) (br_f (nI_nlt hge (by omega)) (nm_r (nI_1 i) (my_halt (by decide) K)))
    · refine ⟨nI (i + 1), (nI mh, nI pl, nI n, f_faulty, f_queued, f_kindHeight, 2, nI p, nI h, nI m, f_choices, yf &&& 31, pj_nF O, G, a_faultBits, a_heightBits, a_kindBits, a_leastSteps, a_queue, a_queueSteps, a_reached, a_kindStack, a_kindLocals, sta, lo, fie), (nI mh, nI pl, nI n, 2, nI p, nI h, nI m, yf, f_choices, pj_nF O, G, d_reached, d_fresh, d_coming, d_dist, sta, yl, fie), ⟨n, mh, pl, O, G, _, _, _, _, _, _, _, _, _, _, _, _, _, _, _, _, _, _, _, _, _, _, _, _, _, _, _, _, _, _, rfl, rfl, W, p1, p8, S, CX, CY, Or.inr ⟨by decide, p, h, m, rfl, rfl, rfl, rfl, rfl, rfl, rfl, l0, l1, by omega, h4, hm, fun z => absurd z (by decide)⟩⟩, fun post K => br_f hnl (KX _ (br_f (by decide) (nm_r (nI_1 i) (mx_halt hL (by omega) (by decide) K)))), fun post K => y75 ex post ⟨hin', hin', ?_⟩⟩
      rw [eo, eg]
      exact KY _ (nm_r (nI_1 i) (nm_r (nI_1 i) (my_halt (by decide) K)))
    · obtain ⟨r, u', v', R, HX, HY⟩ := ih (i + 1) p' h' m' yf' sta' lo' yl' fie' (by omega) q4 qm q0 q1 T'
      refine ⟨r, u', v', R, fun post K => br_f hnl (KX _ (br_f (by decide) (nm_r (nI_1 i) (HX post K)))), fun post K => y75 ex post ⟨hin', hin', ?_⟩⟩
      rw [eo, eg]
      exact KY _ (nm_r (nI_1 i) (nm_r (nI_1 i) (HY post K)))
end
theorem i_vc_step {k : Nat} {u : SX} {v : SY} (I : i_Rel k u v) (hk : k + 4 ≤ 2050) (v1 : Int32) : wpX_step (fun r u' => wpY_step (fun r' v' => r' = r ∧ i_Rel (k + 4) u' v') v v1) u v1 := by
  have I' := i_up I
  obtain ⟨n, mh, pl, O, G, fy, fq, kh, st, po, he, re, ch, fo, fb, hb, kb, ls, aq, aqs, ar, ks, kl, sta, lo, fie, pc, ta, ma, yf, rc, fr, cm, ds, yl, rfl, rfl, W, p1, p8, S, CX, CY, M⟩ := I
  have main : ∀ L, L ≤ 64 → ∃ r u' v', i_Rel 0 u' v' ∧
      (∀ post : Int32 → SX → Prop, post r u' → ∃ m : Nat, wX_step_10 post (nI L) m 0 (nI mh) (nI pl) (nI n) fy fq kh st po he re ch fo (pj_nF O) G fb hb kb ls aq aqs ar ks kl sta lo fie) ∧
      (∀ post : Int32 → SY → Prop, post r v' → ∃ m : Nat, wY_step_26 post (nI L) m 0 0 (nI mh) (nI pl) (nI n) st pc ta ma yf ch (pj_nF O) G rc fr cm ds sta yl fie) := fun L hL => by
    by_cases hst : st = 1
    · rcases M with ⟨e0, _⟩ | ⟨h0, p, h, m, e1, e2, e3, e4, e5, e6, e7, e8, e9, hp, h4, hm, T⟩
      · subst hst
        exact absurd e0 (by decide)
      · subst hst e1 e2 e3 e4 e5 e6 e7
        obtain ⟨r, u', v', R, HX, HY⟩ := mm_loop W p1 p8 S CX CY hL L 0 p h m yf sta lo yl fie (by omega) h4 hm e8 e9 (T rfl)
        exact ⟨r, u', v', R, fun post K => ⟨_, HX post K⟩, fun post K => ⟨_, HY post K⟩⟩
    · exact ⟨0, _, _, I', fun post K => ⟨1, mx_halt (i := 0) hL (by omega) hst K⟩, fun post K => ⟨1, my_halt (k := 0) hst K⟩⟩
  unfold wpX_step
  refine mx_clamp (fun h => ?_) (fun h h' => ?_) (fun h h' => ?_)
  · obtain ⟨r, u', v', R, HX, HY⟩ := main 0 (by omega)
    exact HX _ (br_f (Int32.not_le.mpr h) (HY _ ⟨rfl, R⟩))
  · obtain ⟨r, u', v', R, HX, HY⟩ := main 64 (by omega)
    exact HX _ (br_t h (br_f (Int32.not_le.mpr h') (HY _ ⟨rfl, R⟩)))
  · obtain ⟨L, hL, rfl⟩ := nI_of2 (M := 64) (n := 64) (by decide) (Int32.not_lt.mpr h) h'
    obtain ⟨r, u', v', R, HX, HY⟩ := main L hL
    exact HX _ (br_t h (br_t h' (HY _ ⟨rfl, R⟩)))
end
