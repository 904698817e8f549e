/-! ===== groups: both sides alike ===== -/
section CG
variable {en cu : Nat → Nat} {n f0 K : Nat}
theorem ch_at (h : CHN en n f0 K cu) {k : Nat} (hb : (msk cu K).testBit k = true) : popS (msk cu K) k < K ∧ cu (popS (msk cu K) k) = k := by
  obtain ⟨i, hi, e⟩ := (msk_bit cu k K).mp hb
  have := ch_pop h i hi
  rw [e] at this
  rw [this]
  exact ⟨hi, e⟩
theorem ch_cut (h : CHN en n f0 K cu) : ∀ d k re, k + d = n → cutL (msk cu K) n d k re = if popS (msk cu K) k + re < K then nI (cu (popS (msk cu K) k + re)) else -2
  | 0, k, re, hk => by
    rw [show k = n by omega, ch_popn h (Nat.le_refl n), if_neg (by omega)]
    rfl
  | d + 1, k, re, hk => by
    rw [cutL_s]
    cases hb : (msk cu K).testBit k with
    | true =>
      obtain ⟨h1, h2⟩ := ch_at h hb
      by_cases hr : re = 0
      · subst hr
        rw [if_pos rfl, if_pos rfl, Nat.add_zero, if_pos h1, h2]
      · rw [if_pos rfl, if_neg hr, ch_cut h d (k + 1) (re - 1) (by omega), pS_1 hb, show popS (msk cu K) k + 1 + (re - 1) = popS (msk cu K) k + re by omega]
    | false =>
      have e : popS (msk cu K) (k + 1) = popS (msk cu K) k := by rw [pS_s, hb]; rfl
      rw [if_neg (by decide), ch_cut h d (k + 1) re (by omega), e]
theorem gcn_sp (h : CHN en n f0 K cu) (k : Nat) : ∀ i, i ≤ K → gcn cu k i ≤ i ∧ ∀ j, j < i → (cu j ≤ k ↔ j < gcn cu k i)
  | 0, _ => ⟨Nat.le_refl 0, fun j hj => absurd hj (Nat.not_lt_zero j)⟩
  | i + 1, hi => by
    obtain ⟨h1, h2⟩ := gcn_sp h k i (by omega)
    have e : gcn cu k (i + 1) = if cu i ≤ k then gcn cu k i + 1 else gcn cu k i := rfl
    rw [e]
    by_cases hc : cu i ≤ k
    · rw [if_pos hc]
      have hm : gcn cu k i = i := by
        rcases Nat.lt_or_ge (gcn cu k i) i with q | q
        · have h3 := h2 (gcn cu k i) q
          have h4 := ch_mono h i _ q (by omega)
          have := h3.mp (by omega)
          omega
        · omega
      rw [hm]
      refine ⟨Nat.le_refl _, fun j hj => ⟨fun _ => hj, fun _ => ?_⟩⟩
      rcases Nat.lt_or_ge j i with q | q
      · have := ch_mono h i j q (by omega)
        omega
      · rw [show j = i by omega]
        exact hc
    · rw [if_neg hc]
      refine ⟨by omega, fun j hj => ?_⟩
      rcases Nat.lt_or_ge j i with q | q
      · exact h2 j q
      · rw [show j = i by omega]
        exact ⟨fun g => absurd g hc, fun g => by omega⟩
theorem bg_down {C t : Nat} (ht : C.testBit t = true) : ∀ d fu a, a = t + d → d ≤ fu → (∀ x, t < x → x ≤ a → C.testBit x = false) → bgF C n fu a = t
  | 0, fu, a, ha, _, _ => by rw [ha]; exact bgF_hit ht fu
  | d + 1, fu, a, ha, hd, hno => by
    obtain ⟨g, rfl⟩ : ∃ g, fu = g + 1 := ⟨fu - 1, by omega⟩
    show (if C.testBit a then a else bgF C n g (pr n a)) = t
    rw [hno a (by omega) (Nat.le_refl a), if_neg (by decide)]
    have e : pr n a = a - 1 := by unfold pr; rw [if_neg (by omega)]
    rw [e]
    exact bg_down ht d g (a - 1) (by omega) (by omega) (fun x h1 h2 => hno x h1 (by omega))
theorem bg_wrap {C : Nat} : ∀ a fu, a + 1 ≤ fu → (∀ x, x ≤ a → C.testBit x = false) → bgF C n fu a = bgF C n (fu - (a + 1)) (n - 1)
  | 0, fu, hf, hno => by
    obtain ⟨g, rfl⟩ : ∃ g, fu = g + 1 := ⟨fu - 1, by omega⟩
    show (if C.testBit 0 then 0 else bgF C n g (pr n 0)) = _
    rw [hno 0 (Nat.le_refl 0), if_neg (by decide)]
    rfl
  | a + 1, fu, hf, hno => by
    obtain ⟨g, rfl⟩ : ∃ g, fu = g + 1 := ⟨fu - 1, by omega⟩
    show (if C.testBit (a + 1) then a + 1 else bgF C n g (pr n (a + 1))) = _
    rw [hno (a + 1) (Nat.le_refl _), if_neg (by decide)]
    have e : pr n (a + 1) = a := rfl
    rw [e, bg_wrap a g (by omega) (fun x hx => hno x (by omega)), show g + 1 - (a + 1 + 1) = g - (a + 1) by omega]
theorem ch_bg (h : CHN en n f0 K cu) (hn : n ≤ 16) {k : Nat} (hk : k < n) : bgR (msk cu K) n k = cu (grp cu K k) ∧ grp cu K k < K := by
  obtain ⟨h1, h2⟩ := gcn_sp h k K (Nat.le_refl K)
  have hK := h.2.1
  unfold grp bgR
  by_cases g : gcn cu k K = 0
  · rw [if_pos g]
    have hl := (h.2.2.2.2.1 (K - 1) (by omega)).1
    have hgt : ¬ cu (K - 1) ≤ k := fun q => by
      have := (h2 (K - 1) (by omega)).mp q
      omega
    refine ⟨?_, by omega⟩
    rw [bg_wrap k 16 (by omega) (fun x hx => bit_f (fun hb => by
      obtain ⟨j, hj, e⟩ := (msk_bit cu x K).mp hb
      have := (h2 j hj).mp (by omega)
      omega))]
    exact bg_down (ch_bit h (by omega)) (n - 1 - cu (K - 1)) _ _ (by omega) (by omega) (fun x a b => ch_no h (show K - 1 < K by omega) a (fun q => absurd q (by omega)))
  · rw [if_neg g]
    have hle : cu (gcn cu k K - 1) ≤ k := (h2 _ (by omega)).mpr (by omega)
    refine ⟨?_, by omega⟩
    refine bg_down (ch_bit h (by omega)) (k - cu (gcn cu k K - 1)) _ _ (by omega) (by omega) (fun x a b => ch_no h (show gcn cu k K - 1 < K by omega) a (fun q => ?_))
    rcases Nat.lt_or_ge x (cu (gcn cu k K - 1 + 1)) with q2 | q2
    · exact q2
    · have := (h2 (gcn cu k K - 1 + 1) q).mp (by omega)
      omega
end CG
def GG (en oo ii cu : Nat → Nat) (n sz : Nat) : Prop := sz = popc (fcF oo ii n (1 <<< n - 1)) ∧ (∀ i, cutL (fcF oo ii n (1 <<< n - 1)) n n 0 i = if i < sz then nI (cu i) else -2) ∧ ∀ j, j < n → ∀ k, k < n → (grp cu sz j = grp cu sz k ↔ bgR (fcF oo ii n (1 <<< n - 1)) n j = bgR (fcF oo ii n (1 <<< n - 1)) n k) ∧ isF cu sz j = decide (bgR (fcF oo ii n (1 <<< n - 1)) n j = j)
theorem g_main {n : Nat} {en st oo ii cu : Nat → Nat} {sz : Nat} (T : TXT n en st oo ii) (hn0 : 0 < n) (F : FD en n cu sz) : GG en oo ii cu n sz := by
  obtain ⟨hn, hen, hst, hoo, hii, he, hs, hd⟩ := T
  have h := chn_of hn0 hn F
  have hM : ∀ k, k < n → oo k ||| ii k = MC en k := fun k hk => by
    show _ = cyl (en k)
    unfold cyl
    rw [he k hk, en_o (hii k), en_i (hii k)]
  have hK16 : sz ≤ 16 := by
    have h1 := h.2.2.2.2.2.2.1 0 hn0
    have h2 := nd_0 en n n 0 (by omega) hn0
    omega
  have hfc := ch_fc h hM hn hK16
  unfold GG
  rw [hfc]
  refine ⟨(ch_pc h hn).symm, fun i => ?_, fun j hj k hk => ⟨?_, ?_⟩⟩
  · have h0 : popS (msk cu sz) 0 = 0 := rfl
    rw [ch_cut h n 0 i (by omega), h0, Nat.zero_add]
  · obtain ⟨a1, a2⟩ := ch_bg h hn hj
    obtain ⟨b1, b2⟩ := ch_bg h hn hk
    rw [a1, b1]
    refine ⟨fun e => by rw [e], fun e => ?_⟩
    rcases Nat.lt_trichotomy (grp cu sz j) (grp cu sz k) with q | q | q
    · have := ch_mono h _ _ q b2
      omega
    · exact q
    · have := ch_mono h _ _ q a2
      omega
  · obtain ⟨a1, a2⟩ := ch_bg h hn hj
    unfold isF
    refine decide_eq_decide.mpr ⟨fun g => ?_, fun g => ?_⟩
    · have hb : (msk cu sz).testBit j = true := (msk_bit cu j sz).mpr ⟨_, g, of_decide_eq_true (fs_yes g)⟩
      exact bgF_hit hb 16
    · rcases Nat.lt_or_ge (fs (fun i => decide (cu i = j)) sz) sz with q | q
      · exact q
      · have := fs_no (P := fun i => decide (cu i = j)) (n := sz) (j := grp cu sz j) (by omega)
        rw [a1] at g
        exact absurd g (of_decide_eq_false this)
