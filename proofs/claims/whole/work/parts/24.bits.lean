/-! ===== both sides alike: bits ===== -/
theorem z_of {x : Nat} (h : ∀ i, x.testBit i = false) : x = 0 := Nat.eq_of_testBit_eq (fun i => by rw [h i, Nat.zero_testBit])
theorem z_to {x : Nat} (h : x = 0) (i : Nat) : x.testBit i = false := by rw [h, Nat.zero_testBit]
theorem bt_hi {x i : Nat} (h : x < 64) (hi : 6 ≤ i) : x.testBit i = false := Nat.testBit_lt_two_pow (Nat.lt_of_lt_of_le h (show 64 ≤ 2 ^ i from Nat.pow_le_pow_right (n := 2) (i := 6) (by decide) hi))
theorem b63 (i : Nat) : (63 : Nat).testBit i = decide (i < 6) := Nat.testBit_two_pow_sub_one 6 i
theorem enb {a b : Nat} (hb : b < 64) (i : Nat) : (a <<< 6 ||| b).testBit i = if i < 6 then b.testBit i else a.testBit (i - 6) := by
  rw [Nat.testBit_or, Nat.testBit_shiftLeft]
  by_cases h : i < 6
  · rw [if_pos h]
    simp [Nat.not_le.mpr h]
  · rw [if_neg h, bt_hi hb (Nat.not_lt.mp h)]
    simp [Nat.not_lt.mp h]
theorem sen_bit (st : Nat) (i : Nat) : (sen st).testBit i = if i < 6 then !st.testBit i else st.testBit (i - 6) := by
  unfold sen
  rw [enb (anN_lt (k := 6) (by decide)), anN_bit, b63]
  by_cases h : i < 6
  · rw [if_pos h, if_pos h]
    simp [h]
  · rw [if_neg h, if_neg h]
theorem en_o {a b : Nat} (hb : b < 64) : (a <<< 6 ||| b) >>> 6 = a := Nat.eq_of_testBit_eq (fun i => by
  rw [Nat.testBit_shiftRight, enb hb, if_neg (by omega), Nat.add_sub_cancel_left])
theorem en_i {a b : Nat} (hb : b < 64) : (a <<< 6 ||| b) &&& 63 = b := Nat.eq_of_testBit_eq (fun i => by
  rw [Nat.testBit_and, enb hb, b63]
  by_cases h : i < 6
  · simp [h]
  · rw [bt_hi hb (Nat.not_lt.mp h)]
    simp [h])
theorem wr_eq {a b st : Nat} (hb : b < 64) : ((a <<< 6 ||| b) &&& sen st = 0) ↔ (a &&& st = 0 ∧ anN b st = 0) := by
  constructor
  · intro h
    refine ⟨z_of (fun i => ?_), z_of (fun i => ?_)⟩
    · have := z_to h (i + 6)
      rw [Nat.testBit_and, enb hb, sen_bit, if_neg (by omega), if_neg (by omega), Nat.add_sub_cancel] at this
      rw [Nat.testBit_and]
      exact this
    · rw [anN_bit]
      by_cases hi : i < 6
      · have := z_to h i
        rw [Nat.testBit_and, enb hb, sen_bit, if_pos hi, if_pos hi] at this
        exact this
      · rw [bt_hi hb (Nat.not_lt.mp hi)]
        rfl
  · rintro ⟨h1, h2⟩
    refine z_of (fun i => ?_)
    rw [Nat.testBit_and, enb hb, sen_bit]
    by_cases hi : i < 6
    · rw [if_pos hi, if_pos hi]
      have := z_to h2 i
      rw [anN_bit] at this
      exact this
    · rw [if_neg hi, if_neg hi]
      have := z_to h1 (i - 6)
      rw [Nat.testBit_and] at this
      exact this
theorem tr_eq {a b st : Nat} (hb : b < 64) : (anN (a <<< 6 ||| b) (sen st) = 0) ↔ (anN a st = 0 ∧ b &&& st = 0) := by
  constructor
  · intro h
    refine ⟨z_of (fun i => ?_), z_of (fun i => ?_)⟩
    · have := z_to h (i + 6)
      rw [anN_bit, enb hb, sen_bit, if_neg (by omega), if_neg (by omega), Nat.add_sub_cancel] at this
      rw [anN_bit]
      exact this
    · rw [Nat.testBit_and]
      by_cases hi : i < 6
      · have := z_to h i
        rw [anN_bit, enb hb, sen_bit, if_pos hi, if_pos hi, Bool.not_not] at this
        exact this
      · rw [bt_hi hb (Nat.not_lt.mp hi)]
        rfl
  · rintro ⟨h1, h2⟩
    refine z_of (fun i => ?_)
    rw [anN_bit, enb hb, sen_bit]
    by_cases hi : i < 6
    · rw [if_pos hi, if_pos hi, Bool.not_not]
      have := z_to h2 i
      rw [Nat.testBit_and] at this
      exact this
    · rw [if_neg hi, if_neg hi]
      have := z_to h1 (i - 6)
      rw [anN_bit] at this
      exact this
/-- the text, as both have it -/
def TXT (n : Nat) (en st oo ii : Nat → Nat) : Prop := n ≤ 16 ∧ (∀ k, en k < 4096) ∧ (∀ k, st k < 64) ∧ (∀ k, oo k < 64) ∧ (∀ k, ii k < 64) ∧ (∀ k, k < n → en k = oo k <<< 6 ||| ii k) ∧ (∀ k, k ≤ n → st k = sst oo ii k) ∧ ∀ k, k < n → oo k &&& ii k = 0 ∧ ¬ oo k ||| ii k = 0
theorem t_fw {n : Nat} {en st oo ii : Nat → Nat} (T : TXT n en st oo ii) : fwC en st n = fwR oo ii n := by
  obtain ⟨hn, hen, hst, hoo, hii, he, hs, hd⟩ := T
  have hw : ∀ j, j < n → wr en st j = wrR oo ii j := by
    intro j hj
    unfold wr wrR
    rw [he j hj, hs j (Nat.le_of_lt hj), ← Bool.decide_or]
    refine decide_eq_decide.mpr ?_
    rw [wr_eq (hii j), Classical.not_and_iff_not_or_not]
  unfold fwC fwR
  rw [fs_congr hw, hs n (Nat.le_refl n)]
theorem t_mem {n : Nat} {en st oo ii : Nat → Nat} (T : TXT n en st oo ii) : mal st n n = mal (sst oo ii) n n := by
  obtain ⟨hn, hen, hst, hoo, hii, he, hs, hd⟩ := T
  unfold mal
  refine fo_congr (fun j x hj => ?_)
  congr 1
  unfold alk
  refine fo_congr (fun k y hk => ?_)
  rw [hs j (Nat.le_of_lt hj), hs k (Nat.le_of_lt hk)]
theorem t_trg {n : Nat} {en st oo ii : Nat → Nat} (T : TXT n en st oo ii) {j k : Nat} (hj : j < n) (hk : k < n) : trg en st n j k = onR oo ii n j (sst oo ii k) := by
  obtain ⟨hn, hen, hst, hoo, hii, he, hs, hd⟩ := T
  unfold trg onR
  rw [he _ (pr_lt hj), hs k (Nat.le_of_lt hk), ← Bool.decide_and]
  exact decide_eq_decide.mpr (tr_eq (hii _))
theorem clsE_or (e p q : Nat) : clsE e (p ||| q) = clsE e p ||| clsE e q := by
  unfold clsE
  refine Nat.eq_of_testBit_eq (fun i => ?_)
  simp only [Nat.testBit_or, Nat.testBit_and, Nat.testBit_shiftRight]
  cases e.testBit (6 + i) <;> cases e.testBit i <;> cases (63 : Nat).testBit i <;> cases p.testBit i <;> cases q.testBit i <;> cases p.testBit (6 + i) <;> cases q.testBit (6 + i) <;> rfl
theorem clsE_0 (e : Nat) : clsE e 0 = 0 := by
  unfold clsE
  simp
theorem t_cls {n : Nat} {en st oo ii : Nat → Nat} (T : TXT n en st oo ii) {cu : Nat → Nat} {sz ct wy k : Nat} (hk : k < n) (hp : ∀ j, j < n → psh en st cu n sz wy j k = psR oo ii (sst oo ii) n ct wy j k) : cls en st cu n sz wy k = clR oo ii (sst oo ii) n ct wy k n := by
  obtain ⟨hn, hen, hst, hoo, hii, he, hs, hd⟩ := T
  have key : ∀ i, i ≤ n → clsE (en k) (pus en st cu n sz wy k i) = clR oo ii (sst oo ii) n ct wy k i := by
    intro i
    induction i with
    | zero => intro _; exact clsE_0 _
    | succ i ih =>
      intro hi
      show clsE (en k) (if psh en st cu n sz wy i k then pus en st cu n sz wy k i ||| en i else pus en st cu n sz wy k i) = (if psR oo ii (sst oo ii) n ct wy i k then clR oo ii (sst oo ii) n ct wy k i ||| ((oo k &&& ii i) ||| (ii k &&& oo i)) else clR oo ii (sst oo ii) n ct wy k i)
      rw [hp i (by omega)]
      by_cases hq : psR oo ii (sst oo ii) n ct wy i k = true
      · rw [if_pos hq, if_pos hq, clsE_or, ih (by omega)]
        congr 1
        unfold clsE
        rw [he k hk, he i (by omega), en_o (hii k), en_i (hii i), en_i (hii k), en_o (hii i)]
      · rw [if_neg hq, if_neg hq]
        exact ih (by omega)
  exact key n (Nat.le_refl n)
theorem t_clash {n : Nat} {en st oo ii : Nat → Nat} (T : TXT n en st oo ii) {cu : Nat → Nat} {sz ct wy : Nat} (hp : ∀ k, k < n → ∀ j, j < n → psh en st cu n sz wy j k = psR oo ii (sst oo ii) n ct wy j k) : fsI (clP en st cu n sz wy) n = fsI (crP oo ii (sst oo ii) n ct wy) n ∧ clO en st cu n sz wy = crO oo ii (sst oo ii) n ct wy := by
  have h : ∀ j, j < n → clP en st cu n sz wy j = crP oo ii (sst oo ii) n ct wy j := by
    intro j hj
    unfold clP crP
    rw [t_cls T hj (hp j hj)]
  refine ⟨fsI_congr h, ?_⟩
  have e := fs_congr h
  unfold clO crO
  rw [e]
  by_cases hq : fs (crP oo ii (sst oo ii) n ct wy) n < n
  · rw [if_pos hq, if_pos hq, t_cls T hq (hp _ hq)]
  · rw [if_neg hq, if_neg hq]
theorem pc2 : ∀ a, a < 64 → ∀ b, b < 64 → a &&& b = 0 → popc (a <<< 6 ||| b) = popc (a ||| b) := by decide +kernel
theorem t_mvs {n : Nat} {en st oo ii : Nat → Nat} (T : TXT n en st oo ii) : mvs en n = mvsR oo ii n := by
  obtain ⟨hn, hen, hst, hoo, hii, he, hs, hd⟩ := T
  unfold mvs mvsR
  refine fo_congr (fun j x hj => ?_)
  rw [he j hj, pc2 _ (hoo j) _ (hii j) (hd j hj).1]
theorem t_has {n : Nat} {en st oo ii : Nat → Nat} (T : TXT n en st oo ii) {k q : Nat} (hk : k < n) (hq : q < 12) : (en (pr n k)).testBit q = hsR oo ii n k q := by
  obtain ⟨hn, hen, hst, hoo, hii, he, hs, hd⟩ := T
  unfold hsR
  rw [he _ (pr_lt hk), enb (hii _)]
  by_cases h : q < 6
  · rw [if_pos h, if_pos h, Nat.mod_eq_of_lt h]
  · rw [if_neg h, if_neg h, show q % 6 = q - 6 by omega]
theorem exC_bit (en : Nat → Nat) (n q : Nat) : ∀ i : Nat, (exC en n i).testBit q = decide (∃ j, j < i ∧ (en (pr n j)).testBit q = true)
  | 0 => by
    rw [decide_eq_false (fun ⟨j, h, _⟩ => absurd h (Nat.not_lt_zero j))]
    exact Nat.zero_testBit q
  | i + 1 => by
    show (exC en n i ||| en (pr n i)).testBit q = _
    rw [Nat.testBit_or, exC_bit en n q i, ← Bool.decide_eq_true (b := (en (pr n i)).testBit q), ← Bool.decide_or]
    refine decide_eq_decide.mpr ⟨fun h => ?_, fun ⟨j, hj, hb⟩ => ?_⟩
    · rcases h with ⟨j, hj, hb⟩ | hb
      · exact ⟨j, by omega, hb⟩
      · exact ⟨i, by omega, hb⟩
    · rcases Nat.lt_or_ge j i with q1 | q1
      · exact Or.inl ⟨j, q1, hb⟩
      · rw [show j = i by omega] at hb
        exact Or.inr hb
theorem exR_bit (oo ii : Nat → Nat) (n k q : Nat) : ∀ i : Nat, (exR oo ii n k i).testBit q = (decide (q < i) && decide (spR oo ii n q = nI k))
  | 0 => by
    rw [decide_eq_false (Nat.not_lt_zero q)]
    exact Nat.zero_testBit q
  | i + 1 => by
    show (exR oo ii n k i ||| if spR oo ii n i = nI k then 1 <<< i else 0).testBit q = _
    rw [Nat.testBit_or, exR_bit oo ii n k q i]
    have hb : (if spR oo ii n i = nI k then 1 <<< i else 0).testBit q = (decide (q = i) && decide (spR oo ii n q = nI k)) := by
      by_cases hs : spR oo ii n i = nI k
      · rw [if_pos hs, Nat.one_shiftLeft, Nat.testBit_two_pow]
        by_cases hqi : i = q
        · subst hqi
          simp [hs]
        · simp [hqi, Ne.symm hqi]
      · rw [if_neg hs, Nat.zero_testBit]
        by_cases hqi : q = i
        · subst hqi
          simp [hs]
        · simp [hqi]
    rw [hb]
    rcases Nat.lt_trichotomy q i with h | h | h
    · simp [h, Nat.lt_succ_of_lt h, Nat.ne_of_lt h]
    · subst h
      simp
    · simp [Nat.not_lt.mpr (Nat.le_of_lt h), Nat.ne_of_gt h, show ¬ q < i + 1 by omega]
theorem t_ex {n : Nat} {en st oo ii : Nat → Nat} (T : TXT n en st oo ii) {k : Nat} (hk : k < n) : anN (en (pr n k)) (exC en n k) = exR oo ii n k 12 := by
  have hn := T.1
  have hen := T.2.1
  refine Nat.eq_of_testBit_eq (fun q => ?_)
  rw [anN_bit, exC_bit, exR_bit]
  by_cases hq : q < 12
  · rw [decide_eq_true hq, Bool.true_and, t_has T hk hq, ← Bool.decide_eq_true (b := hsR oo ii n k q), ← decide_not, ← Bool.decide_and]
    refine decide_eq_decide.mpr ⟨fun ⟨h1, h2⟩ => ?_, fun h => ?_⟩
    · exact fsI_yes (P := fun k => hsR oo ii n k q) hk (fun j hj => by
        rw [← t_has T (Nat.lt_trans hj hk) hq]
        cases hb : (en (pr n j)).testBit q with
        | false => rfl
        | true => exact absurd ⟨j, hj, hb⟩ h2) h1
    · unfold spR at h
      obtain ⟨h1, h2⟩ := fsI_n (P := fun k => hsR oo ii n k q) (n := n) (by omega) (by rw [h]; exact nI_ne (by omega))
      rw [h2] at h
      have e : fs (fun k => hsR oo ii n k q) n = k := (nI_eq (by omega) (by omega)).mp h
      refine ⟨?_, fun ⟨j, hj, hb⟩ => ?_⟩
      · have := fs_yes h1
        rw [e] at this
        exact this
      · rw [t_has T (Nat.lt_trans hj hk) hq] at hb
        have := fs_no (P := fun k => hsR oo ii n k q) (n := n) (j := j) (by rw [e]; exact hj)
        rw [hb] at this
        cases this
  · rw [decide_eq_false hq, Bool.false_and, Nat.testBit_lt_two_pow (Nat.lt_of_lt_of_le (hen _) (show 4096 ≤ 2 ^ q from Nat.pow_le_pow_right (n := 2) (i := 12) (by decide) (by omega)))]
    rfl
