/-! ===== numbers ===== -/
theorem q_ext {x y : Int32} (h : ∀ i, i < 32 → x.toBitVec.getLsbD i = y.toBitVec.getLsbD i) : x = y := Int32.toBitVec_inj.mp (BitVec.eq_of_getLsbD_eq (fun i hi => h i hi))
theorem q_bt (a i : Nat) (hi : i < 32) : (nI a).toBitVec.getLsbD i = a.testBit i := by
  show (BitVec.ofNat 32 a).getLsbD i = _
  rw [BitVec.getLsbD_ofNat]
  simp [hi]
theorem q_and (a b : Nat) : nI a &&& nI b = nI (a &&& b) := q_ext (fun i hi => by
  rw [Int32.toBitVec_and, BitVec.getLsbD_and, q_bt a i hi, q_bt b i hi, q_bt _ i hi, Nat.testBit_and])
theorem q_or (a b : Nat) : nI a ||| nI b = nI (a ||| b) := q_ext (fun i hi => by
  rw [Int32.toBitVec_or, BitVec.getLsbD_or, q_bt a i hi, q_bt b i hi, q_bt _ i hi, Nat.testBit_or])
theorem q_xor (a b : Nat) : nI a ^^^ nI b = nI (a ^^^ b) := q_ext (fun i hi => by
  rw [Int32.toBitVec_xor, BitVec.getLsbD_xor, q_bt a i hi, q_bt b i hi, q_bt _ i hi, Nat.testBit_xor])
/-- b without the bits of a -/
def anN (b a : Nat) : Nat := b ^^^ (b &&& a)
theorem anN_bit (b a i : Nat) : (anN b a).testBit i = (b.testBit i && !a.testBit i) := by
  unfold anN
  rw [Nat.testBit_xor, Nat.testBit_and]
  cases b.testBit i <;> cases a.testBit i <;> rfl
theorem q_m1 : ∀ i, i < 32 → (-1 : Int32).toBitVec.getLsbD i = true := by decide +kernel
theorem q_anR (b a : Nat) : nI b &&& (nI a ^^^ (-1)) = nI (anN b a) := q_ext (fun i hi => by
  rw [Int32.toBitVec_and, BitVec.getLsbD_and, Int32.toBitVec_xor, BitVec.getLsbD_xor, q_bt a i hi, q_bt b i hi, q_bt _ i hi, q_m1 i hi, anN_bit]
  cases b.testBit i <;> cases a.testBit i <;> rfl)
theorem q_anL (b a : Nat) : (nI a ^^^ (-1)) &&& nI b = nI (anN b a) := q_ext (fun i hi => by
  rw [Int32.toBitVec_and, BitVec.getLsbD_and, Int32.toBitVec_xor, BitVec.getLsbD_xor, q_bt a i hi, q_bt b i hi, q_bt _ i hi, q_m1 i hi, anN_bit]
  cases b.testBit i <;> cases a.testBit i <;> rfl)
theorem q_sl : ∀ n, n < 32 → ((nI n &&& 31).toBitVec.smod 32).toNat = n := by decide +kernel
theorem q_shl (a k : Nat) (hk : k < 32) : nI a <<< (nI k &&& 31) = nI (a <<< k) := q_ext (fun i hi => by
  rw [Int32.toBitVec_shiftLeft]
  show ((nI a).toBitVec <<< ((nI k &&& 31).toBitVec.smod 32).toNat).getLsbD i = _
  rw [q_sl k hk, BitVec.getLsbD_shiftLeft, q_bt _ i hi, Nat.testBit_shiftLeft]
  rcases Nat.lt_or_ge i k with h | h
  · simp [h, Nat.not_le.mpr h]
  · simp [hi, h, Nat.not_lt.mpr h, q_bt a (i - k) (by omega)])
theorem q_shr (a k : Nat) (ha : a < 2 ^ 31) (hk : k < 32) : nI a >>> (nI k &&& 31) = nI (a >>> k) := by
  rw [pk_shrN ha _ k (q_sl k hk), Nat.shiftRight_eq_div_pow]
theorem q_eq0 {a : Nat} (h : a < 2 ^ 31) : nI a = 0 ↔ a = 0 := nI_eq (b := 0) h (by decide)
theorem q_max {a b : Nat} (ha : a < 2 ^ 31) (hb : b < 2 ^ 31) : (if nI a < nI b then nI b else nI a) = nI (max a b) := by
  by_cases h : a < b
  · rw [if_pos ((nI_ltI ha hb).mpr h), Nat.max_eq_right (by omega)]
  · rw [if_neg (fun q => h ((nI_ltI ha hb).mp q)), Nat.max_eq_left (by omega)]
theorem q_min {a b : Nat} (ha : a < 2 ^ 31) (hb : b < 2 ^ 31) : (if nI b < nI a then nI b else nI a) = nI (min a b) := by
  by_cases h : b < a
  · rw [if_pos ((nI_ltI hb ha).mpr h), Nat.min_eq_right (by omega)]
  · rw [if_neg (fun q => h ((nI_ltI hb ha).mp q)), Nat.min_eq_left (by omega)]
theorem q_bN (b : Bool) : bI b = nI b.toNat := by cases b <;> rfl
theorem q_b0 {b : Bool} : bI b = 0 ↔ b = false := by cases b <;> decide
theorem q_b1 {b : Bool} : bI b = nI 1 ↔ b = true := by cases b <;> decide
theorem q_bb {a b : Bool} : bI a = bI b ↔ a = b := by cases a <;> cases b <;> decide
theorem q_bit1 (a k : Nat) : (a >>> k) &&& 1 = (a.testBit k).toNat := by
  rw [Nat.testBit, Nat.and_comm]
  rcases (show 1 &&& a >>> k = 0 ∨ 1 &&& a >>> k = 1 by have h : 1 &&& a >>> k ≤ 1 := Nat.and_le_left; omega) with h | h <;> rw [h] <;> rfl
theorem q_bit (a k : Nat) : nI (a >>> k) &&& nI 1 = bI (a.testBit k) := by rw [q_and, q_bit1, q_bN]
theorem q_dec {a : Nat} (h : 1 ≤ a) : nI a + Int32.ofInt (-1) = nI (a - 1) := by
  obtain ⟨b, rfl⟩ : ∃ b, a = b + 1 := ⟨a - 1, by omega⟩
  exact pk_m1 b
theorem q_nI {x : Int32} {n : Nat} (hn : n < 2 ^ 31) (h0 : ¬ x < 0) (h : ¬ nI n ≤ x) : ∃ j : Nat, j < n ∧ x = nI j := by
  rcases pk_ix x hn with q | q | q
  · exact absurd q h0
  · exact absurd q h
  · exact q
/-! ===== the first of n, a sum up to n ===== -/
def fsF (P : Nat → Bool) : Nat → Nat → Nat
  | 0, k => k
  | f + 1, k => if P k then k else fsF P f (k + 1)
def fs (P : Nat → Bool) (n : Nat) : Nat := fsF P n 0
theorem fsF_spec (P : Nat → Bool) : ∀ (f k : Nat), k ≤ fsF P f k ∧ fsF P f k ≤ k + f ∧ (∀ j, k ≤ j → j < fsF P f k → P j = false) ∧ (fsF P f k < k + f → P (fsF P f k) = true)
  | 0, k => ⟨Nat.le_refl _, Nat.le_refl _, fun j h1 h2 => absurd h2 (Nat.not_lt.mpr h1), fun h => absurd h (Nat.lt_irrefl _)⟩
  | f + 1, k => by
    by_cases h : P k = true
    · rw [show fsF P (f + 1) k = k by simp [fsF, h]]
      exact ⟨Nat.le_refl _, by omega, fun j h1 h2 => absurd h2 (Nat.not_lt.mpr h1), fun _ => h⟩
    · rw [show fsF P (f + 1) k = fsF P f (k + 1) by simp [fsF, h]]
      obtain ⟨a, b, c, d⟩ := fsF_spec P f (k + 1)
      refine ⟨by omega, by omega, fun j h1 h2 => ?_, fun h2 => d (by omega)⟩
      rcases Nat.lt_or_ge k j with q | q
      · exact c j q h2
      · rw [show j = k by omega]
        simpa using h
theorem fs_le (P : Nat → Bool) (n : Nat) : fs P n ≤ n := by
  have := (fsF_spec P n 0).2.1
  unfold fs
  omega
theorem fs_no {P : Nat → Bool} {n j : Nat} (h : j < fs P n) : P j = false := (fsF_spec P n 0).2.2.1 j (Nat.zero_le _) h
theorem fs_yes {P : Nat → Bool} {n : Nat} (h : fs P n < n) : P (fs P n) = true := (fsF_spec P n 0).2.2.2 (by unfold fs at h; omega)
theorem fs_eq {P : Nat → Bool} {n k : Nat} (hk : k ≤ n) (h : ∀ j, j < k → P j = false) (hP : k = n ∨ P k = true) : fs P n = k := by
  rcases Nat.lt_trichotomy (fs P n) k with q | q | q
  · have h1 := h _ q
    rw [fs_yes (P := P) (n := n) (by omega)] at h1
    cases h1
  · exact q
  · have h1 := fs_no q
    rcases hP with h2 | h2
    · have := fs_le P n
      omega
    · rw [h2] at h1
      cases h1
theorem fs_congr {P P' : Nat → Bool} {n : Nat} (h : ∀ j, j < n → P j = P' j) : fs P n = fs P' n := by
  refine fs_eq (fs_le P' n) (fun j hj => ?_) ?_
  · rw [h j (Nat.lt_of_lt_of_le hj (fs_le P' n))]
    exact fs_no hj
  · rcases Nat.lt_or_ge (fs P' n) n with q | q
    · exact Or.inr (by rw [h _ q]; exact fs_yes q)
    · exact Or.inl (Nat.le_antisymm (fs_le P' n) q)
/-- the first of n with P, or NONE -/
def fsI (P : Nat → Bool) (n : Nat) : Int32 := if fs P n < n then nI (fs P n) else -1
theorem fsI_yes {P : Nat → Bool} {n k : Nat} (hk : k < n) (h : ∀ j, j < k → P j = false) (hP : P k = true) : fsI P n = nI k := by
  unfold fsI
  rw [fs_eq (Nat.le_of_lt hk) h (Or.inr hP), if_pos hk]
theorem fsI_no {P : Nat → Bool} {n : Nat} (h : ∀ j, j < n → P j = false) : fsI P n = -1 := by
  unfold fsI
  rw [fs_eq (Nat.le_refl n) h (Or.inl rfl), if_neg (Nat.lt_irrefl n)]
theorem fsI_congr {P P' : Nat → Bool} {n : Nat} (h : ∀ j, j < n → P j = P' j) : fsI P n = fsI P' n := by
  unfold fsI
  rw [fs_congr h]
def fo {α : Type} (g : Nat → α → α) (a : α) : Nat → α
  | 0 => a
  | k + 1 => g k (fo g a k)
theorem fo_congr {α : Type} {g g' : Nat → α → α} {a : α} : ∀ {n : Nat}, (∀ j x, j < n → g j x = g' j x) → fo g a n = fo g' a n
  | 0, _ => rfl
  | n + 1, h => by
    show g n (fo g a n) = g' n (fo g' a n)
    rw [fo_congr (n := n) (fun j x hj => h j x (Nat.lt_succ_of_lt hj)), h n _ (Nat.lt_succ_self n)]
theorem lt_snoc {P : Nat → Bool} {i : Nat} (h : ∀ j, j < i → P j = false) (hi : P i = false) : ∀ j, j < i + 1 → P j = false := fun j hj => by
  rcases Nat.lt_or_ge j i with q | q
  · exact h j q
  · rw [show j = i by omega]
    exact hi
theorem q_le0 {a : Nat} (h : a < 2 ^ 31) : nI a ≤ 0 ↔ a = 0 := ⟨fun q => Nat.le_zero.mp ((nI_leI h (by decide : 0 < 2 ^ 31)).mp q), fun q => by rw [q]; exact (nI_leI (a := 0) (b := 0) (by decide) (by decide)).mpr (Nat.le_refl 0)⟩
theorem q_gt0 {a : Nat} (h : a < 2 ^ 31) : 0 < nI a ↔ 0 < a := nI_ltI (a := 0) (by decide) h
theorem q_lt0 {a : Nat} (h : a < 2 ^ 31) : nI a < 0 ↔ a < 0 := nI_ltI (b := 0) h (by decide)
theorem q_ge0 {a : Nat} (h : a < 2 ^ 31) : 0 ≤ nI a ↔ 0 ≤ a := nI_leI (a := 0) (by decide) h
theorem q_mp (a : Nat) : mI a + nI 1 = nI a := by
  unfold mI
  show nI a - 1 + 1 = nI a
  exact Int32.sub_add_cancel (nI a) 1
theorem q_ms (a : Nat) : mI (a + 1) = nI a := nI_pred a
theorem q_mi {a : Nat} (h : a < 2 ^ 31) : (mI a).toInt = (a : Int) - 1 := by
  cases a with
  | zero => decide
  | succ a =>
    rw [q_ms, nI_toInt (by omega)]
    omega
theorem q_mN {a : Nat} (h : a < 2 ^ 31) : mI a = (-1) ↔ a = 0 := by
  rw [← Int32.toInt_inj, q_mi h, show (-1 : Int32).toInt = -1 by decide]
  omega
theorem q_mlt {k a : Nat} (hk : k < 2 ^ 31) (h : a < 2 ^ 31) : nI k < mI a ↔ k + 1 < a := by
  rw [Int32.lt_iff_toInt_lt, q_mi h, nI_toInt hk]
  omega
theorem q_mm {a b : Nat} (ha : a < 2 ^ 30) (hb : b < 2 ^ 30) : mI a = mI b - nI 1 ↔ a + 1 = b := by
  cases b with
  | zero =>
    have h1 : (mI 0 - nI 1).toInt = -2 := by decide
    rw [← Int32.toInt_inj, q_mi (by omega), h1]
    omega
  | succ b =>
    rw [q_ms]
    show mI a = mI b ↔ _
    rw [← Int32.toInt_inj, q_mi (by omega), q_mi (by omega)]
    omega
/-- a row told by another function that is the same on its places -/
theorem WD.ext {D : va_G} {A : Nat → Prop} {H0 H : Heap} {locs : List Loc} {ws : va_W} (w : WD D A H0 ws H locs) (q0 : Nat) {a n : Nat} {cA : ClassId} {f g : Nat → Int32} (he : ws[q0]? = some (a, .inl (cA, n, .inl f))) (hfg : ∀ j, j < n → f j = g j) : WD D A H0 (ws.set q0 (a, .inl (cA, n, .inl g))) H locs := by
  have hc : vp_cell cA (n, .inl f) = vp_cell cA (n, .inl g) := by
    rw [vp_cell_i, vp_cell_i]
    unfold arrV
    congr 2
    funext j
    show Value.int (f j.val) = Value.int (g j.val)
    rw [hfg j.val j.isLt]
  refine ⟨fun k q hq => ?_, w.2.1.set he, w.2.2⟩
  by_cases hk : k = q0
  · subst hk
    rw [List.getElem?_set] at hq
    simp only [if_true] at hq
    split at hq
    · rw [← Option.some.inj hq]
      have h1 := w.1 k _ he
      show H[a]? = some (vp_cell cA (n, .inl g))
      rw [← hc]
      exact h1
    · cases hq
  · rw [List.getElem?_set_ne (Ne.symm hk)] at hq
    exact w.1 k q hq
theorem q_m1N {a : Nat} (h : 1 ≤ a) : mI a = nI (a - 1) := by
  obtain ⟨b, rfl⟩ : ∃ b, a = b + 1 := ⟨a - 1, by omega⟩
  exact q_ms b
theorem q_mdec {a : Nat} (h : 1 ≤ a) : mI a + Int32.ofInt (-1) = mI (a - 1) := by
  obtain ⟨b, rfl⟩ : ∃ b, a = b + 1 := ⟨a - 1, by omega⟩
  rw [q_ms]
  show nI b + (-1) = nI b - 1
  rw [Int32.sub_eq_add_neg]
theorem q_mlt2 {a k : Nat} (ha : a < 2 ^ 31) (hk : k < 2 ^ 31) : mI a < nI k ↔ a ≤ k := by
  rw [Int32.lt_iff_toInt_lt, q_mi ha, nI_toInt hk]
  omega
theorem q_su : ∀ n, n < 32 → (((nI n).toUInt32 &&& Int32.toUInt32 31).toBitVec % 32).toNat = n := by decide +kernel
theorem q_ushr {a k : Nat} (ha : a < 2 ^ 32) (hk : k < 32) : ((nI a).toUInt32 >>> ((nI k).toUInt32 &&& Int32.toUInt32 31)).toInt32 = nI (a >>> k) := by
  rw [pk_ushrN ha _ k (q_su k hk), Nat.shiftRight_eq_div_pow]
theorem shr_le (a k : Nat) : a >>> k ≤ a := by
  rw [Nat.shiftRight_eq_div_pow]
  exact Nat.div_le_self _ _
theorem q_subi {a b : Nat} (ha : a < 2 ^ 30) (hb : b < 2 ^ 30) : (nI a - nI b).toInt = (a : Int) - b := pk_sub_toInt ha hb
theorem q_sublt {a b : Nat} (ha : a < 2 ^ 30) (hb : b < 2 ^ 30) : nI a - nI b < 0 ↔ a < b := by
  rw [Int32.lt_iff_toInt_lt, q_subi ha hb, show (0 : Int32).toInt = 0 by decide]
  omega
theorem q_sub0 {a b : Nat} (ha : a < 2 ^ 30) (hb : b < 2 ^ 30) : nI a - nI b = 0 ↔ a = b := by
  rw [← Int32.toInt_inj, q_subi ha hb, show (0 : Int32).toInt = 0 by decide]
  omega
