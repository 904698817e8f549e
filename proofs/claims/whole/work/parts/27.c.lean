/-! ===== groups: the best cuts ===== -/
theorem last_below {cu : Nat → Nat} {t : Nat} (h0 : cu 0 < t) : ∀ k, 1 ≤ k → ∃ i, i < k ∧ cu i < t ∧ (i + 1 < k → t ≤ cu (i + 1))
  | 0, h => absurd h (by omega)
  | 1, _ => ⟨0, by omega, h0, fun h => absurd h (by omega)⟩
  | k + 2, _ => by
    obtain ⟨i, hi, h1, h2⟩ := last_below h0 (k + 1) (by omega)
    by_cases hk : i + 1 < k + 1
    · exact ⟨i, by omega, h1, fun _ => h2 hk⟩
    · rcases Nat.lt_or_ge (cu (k + 1)) t with q | q
      · exact ⟨k + 1, by omega, q, fun h => absurd h (by omega)⟩
      · exact ⟨i, by omega, h1, fun _ => by rw [show i + 1 = k + 1 by omega]; exact q⟩
section CH
variable {en cu oo ii : Nat → Nat} {n f0 K : Nat}
theorem ch_mono (h : CHN en n f0 K cu) : ∀ j i, i < j → j < K → cu i < cu j
  | 0, i, hi, _ => absurd hi (Nat.not_lt_zero i)
  | j + 1, i, hi, hj => by
    have h1 := h.2.2.2.1 j hj
    rcases Nat.lt_or_ge i j with q | q
    · have := ch_mono h j i q (by omega)
      omega
    · rw [show i = j by omega]
      exact h1
theorem ch_bit (h : CHN en n f0 K cu) {i : Nat} (hi : i < K) : (msk cu K).testBit (cu i) = true := (msk_bit cu _ K).mpr ⟨i, hi, rfl⟩
theorem ch_no (h : CHN en n f0 K cu) {x i : Nat} (hi : i < K) (h1 : cu i < x) (h2 : i + 1 < K → x < cu (i + 1)) : (msk cu K).testBit x = false := bit_f (fun hb => by
  obtain ⟨j, hj, e⟩ := (msk_bit cu x K).mp hb
  rcases Nat.lt_trichotomy j i with q | q | q
  · have := ch_mono h i j q hi
    omega
  · rw [q] at e
    omega
  · have h3 := h2 (by omega)
    rcases Nat.lt_or_ge (i + 1) j with q2 | q2
    · have := ch_mono h j (i + 1) q2 hj
      omega
    · rw [show j = i + 1 by omega] at e
      omega)
theorem ch_low (h : CHN en n f0 K cu) {x : Nat} (hx : x < f0) : (msk cu K).testBit x = false := bit_f (fun hb => by
  obtain ⟨j, hj, e⟩ := (msk_bit cu x K).mp hb
  have := (h.2.2.2.2.1 j hj).2.1
  omega)
theorem ch_lt (h : CHN en n f0 K cu) : msk cu K < 1 <<< n := by
  rw [Nat.one_shiftLeft]
  refine Nat.lt_pow_two_of_testBit _ (fun x hx => bit_f (fun hb => ?_))
  obtain ⟨j, hj, e⟩ := (msk_bit cu x K).mp hb
  have := (h.2.2.2.2.1 j hj).1
  omega
theorem ch_lob (h : CHN en n f0 K cu) (hn : n ≤ 16) : lob (msk cu K) = f0 := by
  have h0 := h.1
  refine fs_eq (P := fun c => (msk cu K).testBit c) (by omega) (fun j hj => ch_low h hj) (Or.inr ?_)
  have := ch_bit h (show 0 < K from h.2.1)
  rw [h.2.2.1] at this
  exact this
theorem ch_pop (h : CHN en n f0 K cu) : ∀ i, i < K → popS (msk cu K) (cu i) = i
  | 0, _ => by
    rw [h.2.2.1, pS_gap' (a := 0) (Nat.zero_le _) (fun x _ hx => ch_low h hx)]
    rfl
  | i + 1, hi => by
    have h1 := h.2.2.2.1 i hi
    rw [pS_gap' (a := cu i + 1) (b := cu (i + 1)) (by omega) (fun x a b => ch_no h (show i < K by omega) (by omega) (fun _ => b)), pS_1 (ch_bit h (by omega)), ch_pop h i (by omega)]
theorem ch_popn (h : CHN en n f0 K cu) {e : Nat} (he : n ≤ e) : popS (msk cu K) e = K := by
  have hK := h.2.1
  have h1 := (h.2.2.2.2.1 (K - 1) (by omega)).1
  rw [pS_gap' (a := cu (K - 1) + 1) (b := e) (by omega) (fun x a b => ch_no h (show K - 1 < K by omega) (by omega) (fun q => absurd q (by omega))), pS_1 (ch_bit h (by omega)), ch_pop h (K - 1) (by omega)]
  omega
theorem ch_pc (h : CHN en n f0 K cu) (hn : n ≤ 16) : popc (msk cu K) = K := ch_popn h hn
theorem ch_run (h : CHN en n f0 K cu) (hn : n ≤ 16) (hK16 : K ≤ 16) {i : Nat} (hi : i + 1 < K) : rF (MC en) n (cu (i + 1) - cu i) (cu i) 0 = true := by
  obtain ⟨a1, a2, a3⟩ := h.2.2.2.2.1 i (by omega)
  obtain ⟨b1, b2, b3⟩ := h.2.2.2.2.1 (i + 1) hi
  obtain ⟨x, hx1, hx2, hx3, hx4⟩ := nd_C (en := en) (f0 := f0) a1 (by omega) (by omega)
  have := h.2.2.2.2.2.1 i hi x hx1
  rcases Nat.lt_or_ge x (cu (i + 1)) with q | q
  · exact absurd (by omega) (this q)
  · exact rF_le (by omega) hx3
theorem ch_v (h : CHN en n f0 K cu) (hM : ∀ k, k < n → oo k ||| ii k = MC en k) (hn : n ≤ 16) (hK16 : K ≤ 16) : ∀ d i, i + d + 1 = K → ∀ mo, mcL oo ii n (msk cu K) f0 (n + f0 - cu i) (cu i - f0) mo = true := by
  have hf := h.1
  have hw : ∀ i, i < K → (msk cu K).testBit (wrp n (f0 + (cu i - f0))) = true := fun i hi => by
    obtain ⟨a1, a2, a3⟩ := h.2.2.2.2.1 i hi
    rw [show f0 + (cu i - f0) = cu i by omega]
    unfold wrp
    rw [if_pos a1]
    exact ch_bit h hi
  have hno : ∀ i, i < K → ∀ t, 1 ≤ t → cu i + t < n + f0 → (i + 1 < K → cu i + t < cu (i + 1)) → (msk cu K).testBit (wrp n (f0 + (cu i - f0) + t)) = false := fun i hi t ht1 ht2 ht3 => by
    obtain ⟨a1, a2, a3⟩ := h.2.2.2.2.1 i hi
    rw [show f0 + (cu i - f0) + t = cu i + t by omega]
    unfold wrp
    by_cases hy : cu i + t < n
    · rw [if_pos hy]
      exact ch_no h hi (by omega) ht3
    · rw [if_neg hy]
      exact ch_low h (by omega)
  intro d
  induction d with
  | zero =>
    intro i hi mo
    obtain ⟨a1, a2, a3⟩ := h.2.2.2.2.1 i (by omega)
    obtain ⟨mo', e⟩ := mc_group (S := msk cu K) (f := f0) hM (by omega) (n + f0 - cu i - 1) 0 (cu i - f0) mo (by omega) (hw i (by omega)) (fun t h1 h2 => hno i (by omega) t h1 (by omega) (fun q => absurd q (by omega)))
    rw [show n + f0 - cu i - 1 + 1 + 0 = n + f0 - cu i by omega, show f0 + (cu i - f0) = cu i by omega, nd_1 a1 (by omega)] at e
    rw [e]
    rfl
  | succ d ih =>
    intro i hi mo
    obtain ⟨a1, a2, a3⟩ := h.2.2.2.2.1 i (by omega)
    obtain ⟨b1, b2, b3⟩ := h.2.2.2.2.1 (i + 1) (by omega)
    have hlt := h.2.2.2.1 i (by omega)
    obtain ⟨mo', e⟩ := mc_group (S := msk cu K) (f := f0) hM (by omega) (cu (i + 1) - cu i - 1) (n + f0 - cu (i + 1)) (cu i - f0) mo (by omega) (hw i (by omega)) (fun t h1 h2 => hno i (by omega) t h1 (by omega) (fun _ => by omega))
    rw [show cu (i + 1) - cu i - 1 + 1 + (n + f0 - cu (i + 1)) = n + f0 - cu i by omega, show cu (i + 1) - cu i - 1 + 1 = cu (i + 1) - cu i by omega, show f0 + (cu i - f0) = cu i by omega, ch_run h hn hK16 (show i + 1 < K by omega), show cu i - f0 + (cu (i + 1) - cu i) = cu (i + 1) - f0 by omega, ih (i + 1) (by omega) mo'] at e
    rw [e]
    rfl
theorem ch_valid (h : CHN en n f0 K cu) (hM : ∀ k, k < n → oo k ||| ii k = MC en k) (hn : n ≤ 16) (hK16 : K ≤ 16) : mayC oo ii n (msk cu K) = true := by
  unfold mayC
  have := ch_v h hM hn hK16 (K - 1) 0 (by have := h.2.1; omega) 0
  rw [h.2.2.1, show n + f0 - f0 = n by omega, Nat.sub_self] at this
  rw [ch_lob h hn]
  exact this
theorem ch_opt (h : CHN en n f0 K cu) (hM : ∀ k, k < n → oo k ||| ii k = MC en k) (hn : n ≤ 16) (hK16 : K ≤ 16) {S : Nat} (hv : mayC oo ii n S = true) (h0 : ¬ S = 0) (hS : S < 1 <<< n) : K ≤ popc S ∧ (¬ S = msk cu K → popc S = K → (msk cu K).testBit (lob (S ^^^ msk cu K)) = true) := by
  have hsn := shn hn
  have hl := lob_lt h0 (by omega)
  have hlb := lob_bit hl
  have hln := lob_n hS hlb
  have hp0 : popS S (lob S) = 0 := by
    rw [pS_gap' (a := 0) (Nat.zero_le _) (fun x _ hx => lob_lo hx)]
    rfl
  have hK := h.2.2.2.2.2.2.1 _ hln
  have h1 := v_nd hM hn hv hln _ _ rfl hlb hln
  refine ⟨by omega, fun hne hpc => ?_⟩
  have hC := ch_lt h
  obtain ⟨c1, -, c3, c4⟩ := cmE_eq (show S < 65536 by omega) (show msk cu K < 65536 by omega) hne
  generalize lob (S ^^^ msk cu K) = t at *
  cases hct : (msk cu K).testBit t with
  | true => rfl
  | false =>
    exfalso
    rw [hct] at c4
    have c4 : S.testBit t = true := c4
    have htn := lob_n hS c4
    have hf := h.1
    rcases Nat.lt_or_ge t f0 with q | q
    · have e : lob S = t := by
        rcases Nat.lt_trichotomy (lob S) t with g | g | g
        · have := c3 _ g
          rw [hlb, ch_low h (by omega)] at this
          cases this
        · exact g
        · rw [lob_lo g] at c4
          cases c4
      have := h.2.2.2.2.2.2.2 t q
      rw [e] at h1 hp0
      omega
    · have hb0 : (msk cu K).testBit f0 = true := by
        have := ch_bit h (show 0 < K from h.2.1)
        rwa [h.2.2.1] at this
      have hne0 : ¬ t = f0 := fun e => by rw [e, hb0] at hct; cases hct
      obtain ⟨i, hi, hit, hnx⟩ := last_below (cu := cu) (t := t) (by rw [h.2.2.1]; omega) K h.2.1
      obtain ⟨a1, a2, a3⟩ := h.2.2.2.2.1 i hi
      have hlS : lob S = f0 := by
        rcases Nat.lt_trichotomy (lob S) f0 with g | g | g
        · have := c3 (lob S) (by omega)
          rw [hlb, ch_low h g] at this
          cases this
        · exact g
        · have := c3 f0 (by omega)
          rw [lob_lo g, hb0] at this
          cases this
      have hnx2 : i + 1 < K → t < cu (i + 1) := fun g => by
        have := hnx g
        rcases Nat.eq_or_lt_of_le this with e | e
        · rw [e, ch_bit h g] at hct
          cases hct
        · exact e
      have hSp : S.testBit (cu i) = true := by rw [c3 _ hit]; exact ch_bit h hi
      have hgap : ∀ y, cu i < y → y < t → S.testBit y = false := fun y h2 h3 => by
        rw [c3 y h3]
        exact ch_no h hi h2 (fun g => by have := hnx2 g; omega)
      have hpp : popS S (cu i) = i := by
        have key : ∀ x, x ≤ t → popS S x = popS (msk cu K) x := by
          intro x
          induction x with
          | zero => intro _; rfl
          | succ x ih =>
            intro hx
            rw [pS_s, pS_s, ih (by omega), c3 x (by omega)]
        rw [key _ (by omega)]
        exact ch_pop h i hi
      have hpt : popS S t = i + 1 := by
        rw [pS_gap' (a := cu i + 1) (b := t) (by omega) (fun y g1 g2 => hgap y (by omega) g2), pS_1 hSp, hpp]
      have h2 := v_nd hM hn hv hln _ _ rfl c4 htn
      have hr := v_run hM hn hv hln hSp a1 hit (by omega) (fun y g1 g2 _ => hgap y g1 g2)
      have hB := nd_B (en := en) (f0 := f0) hit htn hr
      have hg := nd_ge (en := en) (f0 := f0) htn
      rw [hlS] at h2
      have hi1 : i + 1 < K := by omega
      exact h.2.2.2.2.2.1 i hi1 t hit (hnx2 hi1) (by omega)
theorem all_ok (hn : 0 < n) (f : Nat) : ∀ F i mo, mcL oo ii n (1 <<< n - 1) f F i mo = true
  | 0, _, _ => rfl
  | F + 1, i, mo => by
    have hb : (1 <<< n - 1).testBit ((f + i) % n) = true := by
      rw [Nat.one_shiftLeft, Nat.testBit_two_pow_sub_one]
      exact decide_eq_true (Nat.mod_lt _ hn)
    rw [mcL_s, hb]
    show (if 0 &&& (oo ((f + i) % n) ||| ii ((f + i) % n)) = 0 then _ else _) = true
    rw [if_pos (Nat.zero_and _)]
    exact all_ok hn f F (i + 1) _
theorem ch_fc (h : CHN en n f0 K cu) (hM : ∀ k, k < n → oo k ||| ii k = MC en k) (hn : n ≤ 16) (hK16 : K ≤ 16) : fcF oo ii n (1 <<< n - 1) = msk cu K := by
  have hn0 : 0 < n := by have := h.1; omega
  have hC := ch_lt h
  have hsn := shn hn
  have hsn2 := shn2 hn0
  have hpc := ch_pc h hn
  have hv := ch_valid h hM hn hK16
  have hC0 : ¬ msk cu K = 0 := fun e => by
    have := ch_bit h (show 0 < K from h.2.1)
    rw [e, Nat.zero_testBit] at this
    cases this
  have b1 : ∀ S, mayC oo ii n S = true → ¬ S = 0 → S < 1 <<< n → ¬ S = msk cu K → btr (msk cu K) S = true := fun S h1 h2 h3 h4 => by
    obtain ⟨o1, o2⟩ := ch_opt h hM hn hK16 h1 h2 h3
    unfold btr
    rw [hpc]
    rcases Nat.lt_or_ge K (popc S) with q | q
    · rw [decide_eq_true q]
      rfl
    · have e : popc S = K := by omega
      obtain ⟨-, c2, -, -⟩ := cmE_eq (show msk cu K < 65536 by omega) (show S < 65536 by omega) (fun g => h4 g.symm)
      rw [decide_eq_true e.symm, c2, Nat.xor_comm, o2 h4 e]
      simp
  have b2 : ∀ S, mayC oo ii n S = true → ¬ S = 0 → S < 1 <<< n → btr S (msk cu K) = false := fun S h1 h2 h3 => by
    obtain ⟨o1, o2⟩ := ch_opt h hM hn hK16 h1 h2 h3
    unfold btr
    rw [hpc, decide_eq_false (show ¬ popc S < K by omega), Bool.false_or]
    by_cases e : popc S = K
    · by_cases g : S = msk cu K
      · rw [g, cmE_self]
        simp
      · obtain ⟨-, c2, -, c4⟩ := cmE_eq (show S < 65536 by omega) (show msk cu K < 65536 by omega) g
        rw [c2, c4, o2 g e]
        simp
    · rw [decide_eq_false e]
      rfl
  have key : ∀ j, j + 1 ≤ 1 <<< n → mayC oo ii n (fcF oo ii n j) = true ∧ (msk cu K ≤ j → fcF oo ii n j = msk cu K) := by
    intro j
    induction j with
    | zero =>
      intro _
      exact ⟨all_ok hn0 _ _ _ _, fun g => absurd (Nat.le_zero.mp g) hC0⟩
    | succ j ih =>
      intro hj
      obtain ⟨i1, i2⟩ := ih (by omega)
      obtain ⟨d1, d2⟩ := fcF_bd (oo := oo) (ii := ii) hn0 j (by omega)
      have e : fcF oo ii n (j + 1) = if btr (j + 1) (fcF oo ii n j) && mayC oo ii n (j + 1) then j + 1 else fcF oo ii n j := rfl
      rw [e]
      generalize fcF oo ii n j = ct at *
      by_cases hu : (btr (j + 1) ct && mayC oo ii n (j + 1)) = true
      · rw [if_pos hu]
        have hu2 := Bool.and_eq_true_iff.mp hu
        refine ⟨hu2.2, fun g => ?_⟩
        rcases Nat.lt_or_ge j (msk cu K) with q | q
        · omega
        · rw [i2 q, b2 (j + 1) hu2.2 (by omega) (by omega)] at hu2
          exact absurd hu2.1 (by decide)
      · rw [if_neg hu]
        refine ⟨i1, fun g => ?_⟩
        rcases Nat.lt_or_ge j (msk cu K) with q | q
        · have e2 : j + 1 = msk cu K := by omega
          by_cases g2 : ct = msk cu K
          · exact g2
          · exfalso
            apply hu
            rw [e2, b1 ct i1 (by omega) d2 g2, hv]
            rfl
        · exact i2 q
  exact (key (1 <<< n - 1) (by omega)).2 (by omega)
end CH
