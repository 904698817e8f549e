/-! ===== groups: sets of cuts ===== -/
theorem wrp_mod {n x : Nat} (h : x < 2 * n) : x % n = wrp n x := by
  unfold wrp
  by_cases hx : x < n
  · rw [if_pos hx, Nat.mod_eq_of_lt hx]
  · rw [if_neg hx, Nat.mod_eq_sub_mod (by omega), Nat.mod_eq_of_lt (by omega)]
section MCL
variable {oo ii M : Nat → Nat} {n S f : Nat}
theorem mc_s (hM : ∀ k, k < n → oo k ||| ii k = M k) {i : Nat} (hi : f + i < 2 * n) (hn : 0 < n) (F mo : Nat) : mcL oo ii n S f (F + 1) i mo = if (if S.testBit (wrp n (f + i)) then 0 else mo) &&& M (wrp n (f + i)) = 0 then mcL oo ii n S f F (i + 1) ((if S.testBit (wrp n (f + i)) then 0 else mo) ||| M (wrp n (f + i))) else false := by
  rw [mcL_s, hM _ (Nat.mod_lt _ hn), wrp_mod hi]
theorem mc_run (hM : ∀ k, k < n → oo k ||| ii k = M k) (hn : 0 < n) : ∀ (d F i mo : Nat), f + i + d ≤ 2 * n → (∀ t, t < d → S.testBit (wrp n (f + i + t)) = false) → ∃ mo', mcL oo ii n S f (d + F) i mo = (rF M n d (f + i) mo && mcL oo ii n S f F (i + d) mo')
  | 0, F, i, mo, _, _ => ⟨mo, by rw [Nat.zero_add]; rfl⟩
  | d + 1, F, i, mo, hb, hno => by
    have h0 : S.testBit (wrp n (f + i)) = false := hno 0 (by omega)
    have e : mcL oo ii n S f (d + 1 + F) i mo = if mo &&& M (wrp n (f + i)) = 0 then mcL oo ii n S f (d + F) (i + 1) (mo ||| M (wrp n (f + i))) else false := by
      rw [show d + 1 + F = d + F + 1 by omega, mc_s hM (by omega) hn, h0]
      rfl
    rw [e, rF_s]
    by_cases h : mo &&& M (wrp n (f + i)) = 0
    · rw [if_pos h, decide_eq_true h, Bool.true_and]
      obtain ⟨mo', h'⟩ := mc_run hM hn d F (i + 1) (mo ||| M (wrp n (f + i))) (by omega) (fun t ht => by
        have := hno (t + 1) (by omega)
        rwa [show f + i + (t + 1) = f + (i + 1) + t by omega] at this)
      exact ⟨mo', by rw [h', show i + 1 + d = i + (d + 1) by omega]; rfl⟩
    · rw [if_neg h, decide_eq_false h]
      exact ⟨mo, rfl⟩
theorem mc_group (hM : ∀ k, k < n → oo k ||| ii k = M k) (hn : 0 < n) (d F i mo : Nat) (hb : f + i + (d + 1) ≤ 2 * n) (hc : S.testBit (wrp n (f + i)) = true) (hno : ∀ t, 1 ≤ t → t < d + 1 → S.testBit (wrp n (f + i + t)) = false) : ∃ mo', mcL oo ii n S f (d + 1 + F) i mo = (rF M n (d + 1) (f + i) 0 && mcL oo ii n S f F (i + (d + 1)) mo') := by
  have e : mcL oo ii n S f (d + 1 + F) i mo = mcL oo ii n S f (d + F) (i + 1) (0 ||| M (wrp n (f + i))) := by
    rw [show d + 1 + F = d + F + 1 by omega, mc_s hM (by omega) hn, hc]
    show (if 0 &&& M (wrp n (f + i)) = 0 then _ else _) = _
    rw [if_pos (Nat.zero_and _)]
    rfl
  obtain ⟨mo', h'⟩ := mc_run (S := S) (f := f) hM hn d F (i + 1) (0 ||| M (wrp n (f + i))) (by omega) (fun t ht => by
    have := hno (t + 1) (by omega) (by omega)
    rwa [show f + i + (t + 1) = f + (i + 1) + t by omega] at this)
  refine ⟨mo', ?_⟩
  rw [e, h', rF_s, decide_eq_true (Nat.zero_and _), Bool.true_and, show i + 1 + d = i + (d + 1) by omega]
  rfl
theorem mc_reach : ∀ (a b i mo : Nat), mcL oo ii n S f (a + b) i mo = true → ∃ mo', mcL oo ii n S f b (i + a) mo' = true
  | 0, b, i, mo, h => ⟨mo, by rw [Nat.zero_add] at h; exact h⟩
  | a + 1, b, i, mo, h => by
    rw [show a + 1 + b = a + b + 1 by omega, mcL_s] at h
    by_cases hc : (if S.testBit ((f + i) % n) then 0 else mo) &&& (oo ((f + i) % n) ||| ii ((f + i) % n)) = 0
    · rw [if_pos hc] at h
      obtain ⟨mo', h'⟩ := mc_reach a b (i + 1) _ h
      exact ⟨mo', by rw [show i + (a + 1) = i + 1 + a by omega]; exact h'⟩
    · rw [if_neg hc] at h
      cases h
end MCL
theorem lob_lo {S x : Nat} (h : x < lob S) : S.testBit x = false := fs_no (P := fun c => S.testBit c) (n := 16) h
theorem v_run {oo ii M : Nat → Nat} {n S p x : Nat} (hM : ∀ k, k < n → oo k ||| ii k = M k) (hn16 : n ≤ 16) (hv : mayC oo ii n S = true) (hf : lob S < n) (hp : S.testBit p = true) (hpn : p < n) (hpx : p < x) (hx : x ≤ n + lob S) (hno : ∀ y, p < y → y < x → y < n → S.testBit y = false) : rF M n (x - p) p 0 = true := by
  have hfp : lob S ≤ p := by
    rcases Nat.lt_or_ge p (lob S) with q | q
    · rw [lob_lo q] at hp
      cases hp
    · exact q
  have h1 : mcL oo ii n S (lob S) (p - lob S + (n + lob S - p)) 0 0 = true := by
    rw [show p - lob S + (n + lob S - p) = n by omega]
    exact hv
  obtain ⟨mo, h2⟩ := mc_reach _ _ _ _ h1
  rw [Nat.zero_add] at h2
  obtain ⟨mo', h3⟩ := mc_group (S := S) (f := lob S) hM (by omega) (x - p - 1) (n + lob S - x) (p - lob S) mo (by omega) (by
    rw [show lob S + (p - lob S) = p by omega]
    unfold wrp
    rw [if_pos hpn]
    exact hp) (fun t ht1 ht2 => by
    rw [show lob S + (p - lob S) + t = p + t by omega]
    unfold wrp
    by_cases hy : p + t < n
    · rw [if_pos hy]
      exact hno _ (by omega) (by omega) hy
    · rw [if_neg hy]
      exact lob_lo (by omega))
  rw [show x - p - 1 + 1 + (n + lob S - x) = n + lob S - p by omega, h2, show x - p - 1 + 1 = x - p by omega, show lob S + (p - lob S) = p by omega] at h3
  cases hr : rF M n (x - p) p 0 with
  | true => rfl
  | false =>
    rw [hr] at h3
    cases h3
theorem pS_s (S x : Nat) : popS S (x + 1) = popS S x + (S.testBit x).toNat := rfl
theorem pS_gap {S a : Nat} : ∀ d, (∀ x, a ≤ x → x < a + d → S.testBit x = false) → popS S (a + d) = popS S a
  | 0, _ => rfl
  | d + 1, h => by
    rw [show a + (d + 1) = a + d + 1 by omega, pS_s, h (a + d) (by omega) (by omega), pS_gap d (fun x h1 h2 => h x h1 (by omega))]
    rfl
theorem pS_gap' {S a b : Nat} (hab : a ≤ b) (h : ∀ x, a ≤ x → x < b → S.testBit x = false) : popS S b = popS S a := by
  obtain ⟨d, rfl⟩ : ∃ d, b = a + d := ⟨b - a, by omega⟩
  exact pS_gap d h
theorem pS_mono {S a : Nat} : ∀ d, popS S a ≤ popS S (a + d)
  | 0 => Nat.le_refl _
  | d + 1 => Nat.le_trans (pS_mono d) (by rw [show a + (d + 1) = a + d + 1 by omega, pS_s]; exact Nat.le_add_right _ _)
theorem pS_le {S a b : Nat} (h : a ≤ b) : popS S a ≤ popS S b := by
  obtain ⟨d, rfl⟩ : ∃ d, b = a + d := ⟨b - a, by omega⟩
  exact pS_mono d
theorem pS_1 {S x : Nat} (h : S.testBit x = true) : popS S (x + 1) = popS S x + 1 := by rw [pS_s, h]; rfl
theorem nx_bit' (S p n : Nat) (hp : p < n) : (∃ x, p < x ∧ x < n ∧ S.testBit x = true ∧ ∀ y, p < y → y < x → S.testBit y = false) ∨ ∀ y, p < y → y < n → S.testBit y = false := by
  have hy : ∀ y, p < y → y < p + 1 + fs (fun t => S.testBit (p + 1 + t)) (n - p - 1) → S.testBit y = false := fun y h1 h2 => by
    have := fs_no (P := fun t => S.testBit (p + 1 + t)) (n := n - p - 1) (j := y - p - 1) (by omega)
    rwa [show p + 1 + (y - p - 1) = y by omega] at this
  rcases Nat.lt_or_ge (fs (fun t => S.testBit (p + 1 + t)) (n - p - 1)) (n - p - 1) with q | q
  · exact Or.inl ⟨p + 1 + fs (fun t => S.testBit (p + 1 + t)) (n - p - 1), by omega, by omega, fs_yes (P := fun t => S.testBit (p + 1 + t)) q, hy⟩
  · exact Or.inr (fun y h1 h2 => hy y h1 (by omega))
theorem v_nd {en oo ii : Nat → Nat} {n S : Nat} (hM : ∀ k, k < n → oo k ||| ii k = MC en k) (hn16 : n ≤ 16) (hv : mayC oo ii n S = true) (hf : lob S < n) : ∀ d p, n - p = d → S.testBit p = true → p < n → ndI en n (lob S) p + popS S p ≤ popc S
  | 0, p, h, _, hp => by omega
  | d + 1, p, h, hb, hp => by
    have e16 : popc S = popS S 16 := rfl
    have h1 := pS_1 hb
    have h2 := pS_le (S := S) (a := p + 1) (b := 16) (by omega)
    rcases nx_bit' S p n hp with ⟨x, hx1, hx2, hx3, hx4⟩ | hno
    · have ih := v_nd hM hn16 hv hf (n - x) x rfl hx3 hx2
      have hr := v_run hM hn16 hv hf hb hp hx1 (by omega) (fun y a b _ => hx4 y a b)
      have hB := nd_B (en := en) (f0 := lob S) hx1 hx2 hr
      have hg : popS S x = popS S (p + 1) := pS_gap' (by omega) (fun y a b => hx4 y (by omega) b)
      omega
    · have hr := v_run hM hn16 hv hf hb hp (show p < n + lob S by omega) (Nat.le_refl _) (fun y a _ c => hno y a c)
      rw [nd_A hp hr]
      omega
  termination_by d p => n - p
def msk (cu : Nat → Nat) (K : Nat) : Nat := fo (fun i a => a ||| 1 <<< cu i) 0 K
theorem msk_bit (cu : Nat → Nat) (x : Nat) : ∀ K : Nat, (msk cu K).testBit x = true ↔ ∃ i, i < K ∧ cu i = x
  | 0 => ⟨fun h => (by rw [show msk cu 0 = 0 from rfl, Nat.zero_testBit] at h; cases h), fun ⟨i, h, _⟩ => absurd h (Nat.not_lt_zero i)⟩
  | K + 1 => by
    have ih := msk_bit cu x K
    show (msk cu K ||| 1 <<< cu K).testBit x = true ↔ _
    rw [Nat.testBit_or, Bool.or_eq_true, ih, Nat.one_shiftLeft, Nat.testBit_two_pow, decide_eq_true_eq]
    refine ⟨fun h => ?_, fun ⟨i, hi, e⟩ => ?_⟩
    · rcases h with ⟨i, hi, e⟩ | e
      · exact ⟨i, by omega, e⟩
      · exact ⟨K, by omega, e⟩
    · rcases Nat.lt_or_ge i K with q | q
      · exact Or.inl ⟨i, q, e⟩
      · rw [show i = K by omega] at e
        exact Or.inr e
theorem bit_f {S x : Nat} (h : ¬ S.testBit x = true) : S.testBit x = false := by
  cases hb : S.testBit x with
  | false => rfl
  | true => exact absurd hb h
/-- whose lowest bit apart -/
theorem cmE_eq {a b : Nat} (ha : a < 65536) (hb : b < 65536) (h : ¬ a = b) : lob (a ^^^ b) < 16 ∧ cmF a b = a.testBit (lob (a ^^^ b)) ∧ (∀ j, j < lob (a ^^^ b) → a.testBit j = b.testBit j) ∧ a.testBit (lob (a ^^^ b)) = !b.testBit (lob (a ^^^ b)) := by
  have hx : a ^^^ b < 65536 := Nat.xor_lt_two_pow (n := 16) ha hb
  have hx0 : ¬ a ^^^ b = 0 := fun e => h (by
    refine Nat.eq_of_testBit_eq (fun i => ?_)
    have := z_to e i
    rw [Nat.testBit_xor] at this
    cases h1 : a.testBit i <;> cases h2 : b.testBit i <;> rw [h1, h2] at this <;> first | rfl | cases this)
  have hl := lob_lt hx0 hx
  have hbit := lob_bit hl
  have hlow : ∀ j, j < lob (a ^^^ b) → (a ^^^ b).testBit j = false := fun j hj => lob_lo hj
  generalize lob (a ^^^ b) = t at *
  refine ⟨hl, ?_, fun j hj => ?_, ?_⟩
  · have hneg : ∀ i, i < 32 → (-nI (a ^^^ b)).toBitVec.getLsbD i = ((a ^^^ b).testBit i ^^ decide (∃ j, j < i ∧ (a ^^^ b).testBit j = true)) := by
      intro i hi
      rw [Int32.toBitVec_neg, BitVec.getLsbD_neg, q_bt _ i hi, decide_eq_true hi, Bool.true_and]
      congr 1
      refine decide_eq_decide.mpr ⟨fun ⟨j, hj, e⟩ => ⟨j, hj, by rw [← q_bt _ j (by omega)]; exact e⟩, fun ⟨j, hj, e⟩ => ⟨j, hj, by rw [q_bt _ j (by omega)]; exact e⟩⟩
    have hand : ∀ i, i < 32 → (nI (a &&& (a ^^^ b)) &&& (-nI (a ^^^ b))).toBitVec.getLsbD i = (a.testBit i && decide (i = t)) := by
      intro i hi
      rw [Int32.toBitVec_and, BitVec.getLsbD_and, q_bt _ i hi, hneg i hi, Nat.testBit_and]
      rcases Nat.lt_trichotomy i t with q | q | q
      · rw [hlow i q, decide_eq_false (show ¬ i = t by omega)]
        simp
      · subst q
        rw [hbit, decide_eq_true rfl, decide_eq_false (fun ⟨j, hj, e⟩ => by rw [hlow j hj] at e; cases e)]
        simp
      · rw [decide_eq_true (⟨t, q, hbit⟩ : ∃ j, j < i ∧ (a ^^^ b).testBit j = true), decide_eq_false (show ¬ i = t by omega)]
        cases (a ^^^ b).testBit i <;> cases a.testBit i <;> rfl
    unfold cmF
    cases hat : a.testBit t with
    | true =>
      refine decide_eq_true (fun e => ?_)
      have := hand t (by omega)
      rw [e, hat, decide_eq_true rfl] at this
      have h0 : (0 : Int32).toBitVec.getLsbD t = false := BitVec.getLsbD_zero
      rw [h0] at this
      cases this
    | false =>
      refine decide_eq_false (fun hn => hn ?_)
      refine q_ext (fun i hi => ?_)
      have h0 : (0 : Int32).toBitVec.getLsbD i = false := BitVec.getLsbD_zero
      rw [hand i hi, h0]
      by_cases e : i = t
      · rw [e, hat]
        rfl
      · rw [decide_eq_false e, Bool.and_false]
  · have := hlow j hj
    rw [Nat.testBit_xor] at this
    cases h1 : a.testBit j <;> cases h2 : b.testBit j <;> rw [h1, h2] at this <;> first | rfl | cases this
  · rw [Nat.testBit_xor] at hbit
    cases h1 : a.testBit t <;> cases h2 : b.testBit t <;> rw [h1, h2] at hbit <;> first | rfl | cases hbit
theorem cmE_self (a : Nat) : cmF a a = false := by
  unfold cmF
  refine decide_eq_false (fun h => h ?_)
  rw [Nat.xor_self, Nat.and_zero]
  decide
