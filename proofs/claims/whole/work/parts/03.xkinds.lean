/-! the component's kinds at hand -/
def pj_kd (d : Nat) : Int32 := nI (2 ^ d)
def pj_V (v : Nat) (kh : Int32) (ks : Nat → Int32) : Prop := kh = nI (pj_hg v) ∧ ∀ i, i < pj_hg v → ks i = pj_kd (pj_dg v i)
def pj_A (a b : Nat) (kl : Nat → Int32) : Prop := kl 0 = pj_kd a ∧ kl 1 = pj_kd b
def pj_P (s : Nat) (kh : Int32) (ks kl : Nat → Int32) : Prop := pj_V (s / 9) kh ks ∧ pj_A (s / 3 % 3) (s % 3) kl
theorem pj_3 {a : Nat} (h : a < 3) : a = 0 ∨ a = 1 ∨ a = 2 := by omega
theorem pj_kdshl : ∀ d, d < 3 → (1 : Int32) <<< (nI d &&& 31) = pj_kd d := by decide +kernel
theorem pj_kdshr : ∀ d, d < 3 → pj_kd d >>> ((1 : Int32) &&& 31) = nI d := by decide +kernel
theorem pj_hg4 {v : Nat} (h : v < 40) : pj_hg v < 4 := by
  unfold pj_hg
  (repeat' split) <;> omega
theorem pj_Vpush {v k : Nat} {kh : Int32} {ks : Nat → Int32} (h : pj_V v kh ks) (hv : v < 40) (hk : k < 3) : pj_V (v * 3 + k + 1) (nI (pj_hg v + 1)) (upd ks (pj_hg v) (pj_kd k)) := by
  have h4 := pj_hg4 hv
  obtain ⟨e1, e2, e3⟩ := pj_psh v hv k hk
  refine ⟨by rw [e1], fun i hi => ?_⟩
  rw [e1] at hi
  rcases Nat.lt_or_ge i (pj_hg v) with h1 | h1
  · rw [pk_un (by omega), e3 i (by omega) h1]
    exact h.2 i h1
  · have e : i = pj_hg v := by omega
    subst e
    rw [pk_us, e2]
theorem pj_Vpop {v : Nat} {kh : Int32} {ks : Nat → Int32} (h : pj_V v kh ks) (hv : v < 121) (h0 : 0 < v) : pj_V (pj_rs v) (nI (pj_hg v - 1)) ks := by
  obtain ⟨e1, e2, e3⟩ := pj_pop v hv h0
  have h4 := pj_hgle v
  have e : pj_hg (pj_rs v) = pj_hg v - 1 := by unfold pj_rs; omega
  refine ⟨by rw [e], fun i hi => ?_⟩
  have hi' : i < pj_hg ((v - 1) / 3) := hi
  show ks i = pj_kd (pj_dg ((v - 1) / 3) i)
  rw [e3 i (by omega) hi']
  exact h.2 i (by omega)
theorem pj_Vtop {v : Nat} {kh : Int32} {ks : Nat → Int32} (h : pj_V v kh ks) (hv : v < 121) (h0 : 0 < v) : ks (pj_hg v - 1) = pj_kd (pj_tp v) := by
  obtain ⟨e1, e2, e3⟩ := pj_pop v hv h0
  rw [h.2 _ (by omega), e2]
  rfl
theorem pj_rs121 {v : Nat} (hv : v < 121) : pj_rs v < 121 := by unfold pj_rs; omega
theorem pj_rs40 {v : Nat} (hv : v < 121) : pj_rs v < 40 := by unfold pj_rs; omega
theorem pj_rspos {v : Nat} (h : 2 ≤ pj_hg v) : 0 < pj_rs v := by have := pj_hg2 h; unfold pj_rs; omega
theorem pj_tp3 (v : Nat) : pj_tp v < 3 := by unfold pj_tp; omega
theorem pj_Vtop2 {v : Nat} {kh : Int32} {ks : Nat → Int32} (h : pj_V v kh ks) (hv : v < 121) (h2 : 2 ≤ pj_hg v) : ks (pj_hg v - 2) = pj_kd (pj_tp (pj_rs v)) := by
  have h0 := pj_hg1 (v := v) (by omega)
  have h1 := pj_Vtop (pj_Vpop h hv h0) (pj_rs121 hv) (pj_rspos h2)
  have e : pj_hg (pj_rs v) = pj_hg v - 1 := by have := (pj_pop v hv h0).1; unfold pj_rs; omega
  rw [e] at h1
  exact h1
section
variable {f_maxHeight f_pool f_length f_faulty f_queued f_kindHeight f_status f_position f_height f_records f_choices f_forks : Int32} {a_ops a_args a_faultBits a_heightBits a_kindBits a_leastSteps a_queue a_queueSteps a_reached a_kindStack a_kindLocals a_stack a_locals a_fields : Nat → Int32}
theorem mx_pushKind {post : SX → Prop} {v k : Nat} {x : Int32} (h : pj_V v f_kindHeight a_kindStack) (hv : v < 40) (hk : k < 3) (hx : x = pj_kd k)
    (H : ∀ kh ks, pj_V (v * 3 + k + 1) kh ks → post (f_maxHeight, f_pool, f_length, f_faulty, f_queued, kh, f_status, f_position, f_height, f_records, f_choices, f_forks, a_ops, a_args, a_faultBits, a_heightBits, a_kindBits, a_leastSteps, a_queue, a_queueSteps, a_reached, ks, a_kindLocals, a_stack, a_locals, a_fields)) : wpX_pushKind post (f_maxHeight, f_pool, f_length, f_faulty, f_queued, f_kindHeight, f_status, f_position, f_height, f_records, f_choices, f_forks, a_ops, a_args, a_faultBits, a_heightBits, a_kindBits, a_leastSteps, a_queue, a_queueSteps, a_reached, a_kindStack, a_kindLocals, a_stack, a_locals, a_fields) x := by
  have h4 := pj_hg4 hv
  have hp := pj_Vpush h hv hk
  obtain ⟨rfl, _⟩ := h
  subst hx
  refine br_f (nI_ge (b := 4) h4 (by decide)) ⟨vp_in_nI h4 (by decide), ?_⟩
  intro a ea b eb
  subst ea
  subst eb
  rw [nI_clamp (by omega), nI_1]
  exact H _ _ hp
theorem mx_drop {post : SX → Prop} {h c : Nat} {x : Int32} (hh : f_kindHeight = nI h) (hx : x = nI c) (hc : c ≤ h) (h4 : h ≤ 4) (H : post (f_maxHeight, f_pool, f_length, f_faulty, f_queued, nI (h - c), f_status, f_position, f_height, f_records, f_choices, f_forks, a_ops, a_args, a_faultBits, a_heightBits, a_kindBits, a_leastSteps, a_queue, a_queueSteps, a_reached, a_kindStack, a_kindLocals, a_stack, a_locals, a_fields)) : wpX_dropKinds post (f_maxHeight, f_pool, f_length, f_faulty, f_queued, f_kindHeight, f_status, f_position, f_height, f_records, f_choices, f_forks, a_ops, a_args, a_faultBits, a_heightBits, a_kindBits, a_leastSteps, a_queue, a_queueSteps, a_reached, a_kindStack, a_kindLocals, a_stack, a_locals, a_fields) x := by
  subst hh
  subst hx
  refine pk_le h c (fun e => ?_) (fun e => ?_)
  · have e2 : h - c = 0 := by omega
    rw [e2] at H
    exact H
  · intro b eb
    subst eb
    rw [pk_sub hc]
    exact H
theorem mx_drop1 {post : SX → Prop} {v : Nat} (h : pj_V v f_kindHeight a_kindStack) (hv : v < 121) (h0 : 1 ≤ pj_hg v) (H : ∀ kh, pj_V (pj_rs v) kh a_kindStack → post (f_maxHeight, f_pool, f_length, f_faulty, f_queued, kh, f_status, f_position, f_height, f_records, f_choices, f_forks, a_ops, a_args, a_faultBits, a_heightBits, a_kindBits, a_leastSteps, a_queue, a_queueSteps, a_reached, a_kindStack, a_kindLocals, a_stack, a_locals, a_fields)) : wpX_dropKinds post (f_maxHeight, f_pool, f_length, f_faulty, f_queued, f_kindHeight, f_status, f_position, f_height, f_records, f_choices, f_forks, a_ops, a_args, a_faultBits, a_heightBits, a_kindBits, a_leastSteps, a_queue, a_queueSteps, a_reached, a_kindStack, a_kindLocals, a_stack, a_locals, a_fields) 1 :=
  mx_drop h.1 (c := 1) rfl h0 (pj_hgle v) (H _ (pj_Vpop h hv (pj_hg1 h0)))
theorem mx_drop2 {post : SX → Prop} {v : Nat} (h : pj_V v f_kindHeight a_kindStack) (hv : v < 121) (h0 : 2 ≤ pj_hg v) (H : ∀ kh, pj_V (pj_rs (pj_rs v)) kh a_kindStack → post (f_maxHeight, f_pool, f_length, f_faulty, f_queued, kh, f_status, f_position, f_height, f_records, f_choices, f_forks, a_ops, a_args, a_faultBits, a_heightBits, a_kindBits, a_leastSteps, a_queue, a_queueSteps, a_reached, a_kindStack, a_kindLocals, a_stack, a_locals, a_fields)) : wpX_dropKinds post (f_maxHeight, f_pool, f_length, f_faulty, f_queued, f_kindHeight, f_status, f_position, f_height, f_records, f_choices, f_forks, a_ops, a_args, a_faultBits, a_heightBits, a_kindBits, a_leastSteps, a_queue, a_queueSteps, a_reached, a_kindStack, a_kindLocals, a_stack, a_locals, a_fields) 2 := by
  refine mx_drop h.1 (c := 2) rfl h0 (pj_hgle v) (H _ ?_)
  have e : pj_hg (pj_rs v) = pj_hg v - 1 := by have := (pj_pop v hv (pj_hg1 (by omega))).1; unfold pj_rs; omega
  have h1 := pj_Vpop (pj_Vpop h hv (pj_hg1 (by omega))) (pj_rs121 hv) (pj_rspos h0)
  rw [e] at h1
  exact h1
theorem mx_kbt {post : Int32 → Prop} {d h : Nat} {x : Int32} (hh : f_kindHeight = nI h) (h4 : h ≤ 4) (hx : x = nI d) (hd : d < 2) (H : post (if d < h then a_kindStack (h - 1 - d) else 0)) : wpX_kindBelowTop post (f_maxHeight, f_pool, f_length, f_faulty, f_queued, f_kindHeight, f_status, f_position, f_height, f_records, f_choices, f_forks, a_ops, a_args, a_faultBits, a_heightBits, a_kindBits, a_leastSteps, a_queue, a_queueSteps, a_reached, a_kindStack, a_kindLocals, a_stack, a_locals, a_fields) x := by
  subst hh
  subst hx
  rcases Nat.lt_or_ge d h with h1 | h1
  · rw [if_pos h1] at H
    refine nm_r (e' := nI (h - 1 - d)) ?_ ?_
    · rw [show (1 : Int32) = nI 1 from rfl, pk_sub (by omega), pk_sub (by omega)]
    · refine br_f (nI_pos (by omega)) (br_f (nI_ge (b := 4) (by omega) (by decide)) ⟨vp_in_nI (by omega) (by decide), ?_⟩)
      rw [nI_clamp (by omega)]
      exact H
  · rw [if_neg (by omega)] at H
    have e : (h = 0 ∧ d = 0) ∨ (h = 0 ∧ d = 1) ∨ (h = 1 ∧ d = 1) := by omega
    rcases e with ⟨rfl, rfl⟩ | ⟨rfl, rfl⟩ | ⟨rfl, rfl⟩
    · exact nm_e (br_t (by decide) H)
    · exact nm_e (br_t (by decide) H)
    · exact nm_e (br_t (by decide) H)
theorem mx_kindsFit {post : Int32 → Prop} {o v : Nat} (V : pj_V v f_kindHeight a_kindStack) (hv : v < 121) (ho : o ≤ 13) (hn : pj_nd o ≤ pj_hg v)
    (H0 : pj_kb o (pj_tp v) (pj_tp (pj_rs v)) = true → post 0) (H1 : pj_kb o (pj_tp v) (pj_tp (pj_rs v)) = false → post 1) : wpX_kindsFit post (f_maxHeight, f_pool, f_length, f_faulty, f_queued, f_kindHeight, f_status, f_position, f_height, f_records, f_choices, f_forks, a_ops, a_args, a_faultBits, a_heightBits, a_kindBits, a_leastSteps, a_queue, a_queueSteps, a_reached, a_kindStack, a_kindLocals, a_stack, a_locals, a_fields) (nI o) := by
  unfold wpX_kindsFit
  refine mx_kbt V.1 (pj_hgle v) (d := 0) rfl (by decide) ?_
  refine mx_kbt V.1 (pj_hgle v) (d := 1) rfl (by decide) ?_
  have t1 : 1 ≤ pj_hg v → (if 0 < pj_hg v then a_kindStack (pj_hg v - 1 - 0) else 0) = pj_kd (pj_tp v) := fun h => (if_pos (show 0 < pj_hg v from h)).trans (pj_Vtop V hv (pj_hg1 h))
  have t2 : 2 ≤ pj_hg v → (if 1 < pj_hg v then a_kindStack (pj_hg v - 1 - 1) else 0) = pj_kd (pj_tp (pj_rs v)) := fun h => (if_pos (show 1 < pj_hg v from h)).trans (pj_Vtop2 V hv h)
  generalize (if 0 < pj_hg v then a_kindStack (pj_hg v - 1 - 0) else 0) = r1 at *
  generalize (if 1 < pj_hg v then a_kindStack (pj_hg v - 1 - 1) else 0) = r2 at *
  have a3 := pj_tp3 v
  have b3 := pj_tp3 (pj_rs v)
  generalize pj_tp v = a at *
  generalize pj_tp (pj_rs v) = b at *
  rcases pj_o14 ho with rfl | rfl | rfl | rfl | rfl | rfl | rfl | rfl | rfl | rfl | rfl | rfl | rfl | rfl
  case inr.inr.inr.inr.inr.inl =>
    have hn' : 2 ≤ pj_hg v := hn
    rw [t1 (by omega), t2 hn']
    rcases pj_3 a3 with rfl | rfl | rfl <;> rcases pj_3 b3 with rfl | rfl | rfl <;> ((repeat (first | refine br_t (by decide) ?_ | refine br_f (by decide) ?_)); first | exact H0 rfl | exact H1 rfl)
  case inr.inr.inr.inr.inr.inr.inl =>
    have hn' : 1 ≤ pj_hg v := hn
    rw [t1 hn']
    rcases pj_3 a3 with rfl | rfl | rfl <;> ((repeat (first | refine br_t (by decide) ?_ | refine br_f (by decide) ?_)); first | exact H0 (by simp [pj_kb]) | exact H1 (by simp [pj_kb]))
  case inr.inr.inr.inr.inr.inr.inr.inl =>
    have hn' : 2 ≤ pj_hg v := hn
    rw [t1 (by omega), t2 hn']
    rcases pj_3 a3 with rfl | rfl | rfl <;> rcases pj_3 b3 with rfl | rfl | rfl <;> ((repeat (first | refine br_t (by decide) ?_ | refine br_f (by decide) ?_)); first | exact H0 rfl | exact H1 rfl)
  case inr.inr.inr.inr.inr.inr.inr.inr.inr.inr.inr.inr.inl =>
    have hn' : 2 ≤ pj_hg v := hn
    rw [t1 (by omega), t2 hn']
    rcases pj_3 a3 with rfl | rfl | rfl <;> rcases pj_3 b3 with rfl | rfl | rfl <;> ((repeat (first | refine br_t (by decide) ?_ | refine br_f (by decide) ?_)); first | exact H0 rfl | exact H1 rfl)
  case inr.inr.inr.inr.inr.inr.inr.inr.inr.inr.inr.inr.inr =>
    have hn' : 1 ≤ pj_hg v := hn
    rw [t1 hn']
    rcases pj_3 a3 with rfl | rfl | rfl <;> ((repeat (first | refine br_t (by decide) ?_ | refine br_f (by decide) ?_)); first | exact H0 (by simp [pj_kb]) | exact H1 (by simp [pj_kb]))
  all_goals ((repeat (first | refine br_t (by decide) ?_ | refine br_f (by decide) ?_)); exact H1 (by simp [pj_kb]))
theorem mx_changeKinds {post : SX → Prop} {o s mh : Nat} {g : Int32} (P : pj_P s f_kindHeight a_kindStack a_kindLocals) (hs : s < 1089) (ho : o ≤ 13) (hm : mh ≤ 4) (hk : pj_sk mh o s = 0) (hg : (o = 8 ∨ o = 9) → g = 0 ∨ g = 1)
    (H : ∀ kh ks kl, pj_P (pj_ch o (decide (g = 0)) s) kh ks kl → post (f_maxHeight, f_pool, f_length, f_faulty, f_queued, kh, f_status, f_position, f_height, f_records, f_choices, f_forks, a_ops, a_args, a_faultBits, a_heightBits, a_kindBits, a_leastSteps, a_queue, a_queueSteps, a_reached, ks, kl, a_stack, a_locals, a_fields)) : wpX_changeKinds post (f_maxHeight, f_pool, f_length, f_faulty, f_queued, f_kindHeight, f_status, f_position, f_height, f_records, f_choices, f_forks, a_ops, a_args, a_faultBits, a_heightBits, a_kindBits, a_leastSteps, a_queue, a_queueSteps, a_reached, a_kindStack, a_kindLocals, a_stack, a_locals, a_fields) (nI o) g := by
  obtain ⟨V, A⟩ := P
  have hv : s / 9 < 121 := by omega
  have ha : s / 3 % 3 < 3 := by omega
  have hb : s % 3 < 3 := by omega
  obtain ⟨k1, k2⟩ := pj_sk0 hk
  have H' : ∀ kh ks kl, pj_V (pj_chv o (decide (g = 0)) (s / 9) (s / 3 % 3) (s % 3)) kh ks → pj_A (pj_cha o (decide (g = 0)) (s / 9) (s / 3 % 3)) (pj_chb o (decide (g = 0)) (s / 9) (s % 3)) kl → post (f_maxHeight, f_pool, f_length, f_faulty, f_queued, kh, f_status, f_position, f_height, f_records, f_choices, f_forks, a_ops, a_args, a_faultBits, a_heightBits, a_kindBits, a_leastSteps, a_queue, a_queueSteps, a_reached, ks, kl, a_stack, a_locals, a_fields) := fun kh ks kl h1 h2 => by
    refine H kh ks kl ?_
    unfold pj_P
    obtain ⟨e1, e2, e3⟩ := pj_ch_v (o := o) (z := decide (g = 0)) (s := s)
    rw [e1, e2, e3]
    exact ⟨h1, h2⟩
  clear H
  generalize s / 9 = v at *
  generalize s / 3 % 3 = a at *
  generalize s % 3 = b at *
  have h40 : (o = 0 ∨ o = 1 ∨ o = 3 ∨ o = 8) → pj_hg v < mh → v < 40 := fun q w => pj_hg40 (by omega)
  unfold wpX_changeKinds
  refine mx_kbt V.1 (pj_hgle v) (d := 0) rfl (by decide) ?_
  refine mx_kbt V.1 (pj_hgle v) (d := 1) rfl (by decide) ?_
  have t1 : 1 ≤ pj_hg v → (if 0 < pj_hg v then a_kindStack (pj_hg v - 1 - 0) else 0) = pj_kd (pj_tp v) := fun h => (if_pos (show 0 < pj_hg v from h)).trans (pj_Vtop V hv (pj_hg1 h))
  have t2 : 2 ≤ pj_hg v → (if 1 < pj_hg v then a_kindStack (pj_hg v - 1 - 1) else 0) = pj_kd (pj_tp (pj_rs v)) := fun h => (if_pos (show 1 < pj_hg v from h)).trans (pj_Vtop2 V hv h)
  generalize (if 0 < pj_hg v then a_kindStack (pj_hg v - 1 - 0) else 0) = r1 at *
  generalize (if 1 < pj_hg v then a_kindStack (pj_hg v - 1 - 1) else 0) = r2 at *
  rcases pj_o14 ho with rfl | rfl | rfl | rfl | rfl | rfl | rfl | rfl | rfl | rfl | rfl | rfl | rfl | rfl
  · have w := h40 (by omega) (k2 (by omega))
    (repeat (first | refine br_t (by decide) ?_ | refine br_f (by decide) ?_))
    exact mx_pushKind V w (k := 0) (by omega) rfl (fun kh ks h => H' _ _ _ h A)
  · have w := h40 (by omega) (k2 (by omega))
    (repeat (first | refine br_t (by decide) ?_ | refine br_f (by decide) ?_))
    exact mx_pushKind V w (k := 1) (by omega) rfl (fun kh ks h => H' _ _ _ h A)
  · (repeat (first | refine br_t (by decide) ?_ | refine br_f (by decide) ?_))
    exact mx_drop1 V hv k1 (fun kh h => H' _ _ _ h A)
  · have w := h40 (by omega) (k2 (by omega))
    (repeat (first | refine br_t (by decide) ?_ | refine br_f (by decide) ?_))
    exact mx_pushKind V w (pj_tp3 v) (t1 k1) (fun kh ks h => H' _ _ _ h A)
  · have hn : 2 ≤ pj_hg v := k1
    (repeat (first | refine br_t (by decide) ?_ | refine br_f (by decide) ?_))
    refine mx_drop2 V hv hn (fun kh h => ?_)
    refine mx_pushKind h (by have := pj_rs40 (pj_rs121 hv); exact this) (pj_tp3 v) (t1 (by omega)) (fun kh ks h => ?_)
    refine mx_pushKind h (by unfold pj_rs pj_tp; omega) (pj_tp3 (pj_rs v)) (t2 hn) (fun kh ks h => ?_)
    exact H' _ _ _ h A
  · have hn : 2 ≤ pj_hg v := k1
    (repeat (first | refine br_t (by decide) ?_ | refine br_f (by decide) ?_))
    unfold wX_changeKinds_131
    refine mx_drop2 V hv hn (fun kh h => ?_)
    refine mx_pushKind h (by have := pj_rs40 (pj_rs121 hv); exact this) (k := 0) (by omega) rfl (fun kh ks h => ?_)
    exact H' _ _ _ h A
  · have hn : 1 ≤ pj_hg v := k1
    (repeat (first | refine br_t (by decide) ?_ | refine br_f (by decide) ?_))
    refine mx_drop1 V hv hn (fun kh h => ?_)
    refine mx_pushKind h (pj_rs40 hv) (k := 0) (by omega) rfl (fun kh ks h => ?_)
    exact H' _ _ _ h A
  · have hn : 2 ≤ pj_hg v := k1
    (repeat (first | refine br_t (by decide) ?_ | refine br_f (by decide) ?_))
    exact mx_drop2 V hv hn (fun kh h => H' _ _ _ h A)
  · have w := h40 (by omega) (k2 (by omega))
    rcases hg (by omega) with rfl | rfl
    · (repeat (first | refine br_t (by decide) ?_ | refine br_f (by decide) ?_))
      exact ⟨vp_in_iff.mpr (by decide), mx_pushKind V w (k := a) ha A.1 (fun kh ks h => H' _ _ _ h A)⟩
    · (repeat (first | refine br_t (by decide) ?_ | refine br_f (by decide) ?_))
      exact ⟨vp_in_iff.mpr (by decide), mx_pushKind V w (k := b) hb A.2 (fun kh ks h => H' _ _ _ h A)⟩
  · have hn : 1 ≤ pj_hg v := k1
    rcases hg (by omega) with rfl | rfl
    · (repeat (first | refine br_t (by decide) ?_ | refine br_f (by decide) ?_))
      refine mx_drop1 V hv hn (fun kh h => ⟨vp_in_iff.mpr (by decide), nm_e ?_⟩)
      exact H' _ _ _ h ⟨t1 hn, A.2⟩
    · (repeat (first | refine br_t (by decide) ?_ | refine br_f (by decide) ?_))
      refine mx_drop1 V hv hn (fun kh h => ⟨vp_in_iff.mpr (by decide), nm_e ?_⟩)
      exact H' _ _ _ h ⟨A.1, t1 hn⟩
  · (repeat (first | refine br_t (by decide) ?_ | refine br_f (by decide) ?_))
    exact H' _ _ _ V A
  · (repeat (first | refine br_t (by decide) ?_ | refine br_f (by decide) ?_))
    exact H' _ _ _ V A
  · have hn : 2 ≤ pj_hg v := k1
    (repeat (first | refine br_t (by decide) ?_ | refine br_f (by decide) ?_))
    unfold wX_changeKinds_131
    refine mx_drop2 V hv hn (fun kh h => ?_)
    refine mx_pushKind h (by have := pj_rs40 (pj_rs121 hv); exact this) (k := 0) (by omega) rfl (fun kh ks h => ?_)
    exact H' _ _ _ h A
  · (repeat (first | refine br_t (by decide) ?_ | refine br_f (by decide) ?_))
    exact H' _ _ _ V A
end
