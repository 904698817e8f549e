/-! ===== both sides alike: ticks, laws, ways ===== -/
theorem lon_le {tk : Nat → Nat} {e B : Nat} : ∀ i : Nat, lon tk e i ≤ B ↔ ∀ j, j < i → e.testBit j = true → tk j ≤ B
  | 0 => ⟨fun _ j hj => absurd hj (Nat.not_lt_zero j), fun _ => Nat.zero_le B⟩
  | i + 1 => by
    have ih := lon_le (tk := tk) (e := e) (B := B) i
    have e1 : lon tk e (i + 1) = if e.testBit i then max (lon tk e i) (tk i) else lon tk e i := rfl
    rw [e1]
    by_cases hb : e.testBit i = true
    · rw [if_pos hb, Nat.max_le, ih]
      refine ⟨fun ⟨h1, h2⟩ j hj hjb => ?_, fun h => ⟨fun j hj hjb => h j (by omega) hjb, h i (by omega) hb⟩⟩
      rcases Nat.lt_or_ge j i with q | q
      · exact h1 j q hjb
      · rw [show j = i by omega]
        exact h2
    · rw [if_neg hb, ih]
      refine ⟨fun h1 j hj hjb => ?_, fun h j hj hjb => h j (by omega) hjb⟩
      rcases Nat.lt_or_ge j i with q | q
      · exact h1 j q hjb
      · rw [show j = i by omega] at hjb
        exact absurd hjb hb
theorem gmx (b : Bool) (v t : Nat) : (if b && decide (v < t) then t else v) = if b then max v t else v := by
  cases b
  · rfl
  · by_cases h : v < t
    · simp [h]
      omega
    · simp [h]
      omega
theorem gro_s (oo ii tb : Nat → Nat) (k i : Nat) : gro oo ii tb k (i + 1) = if (oo k).testBit i then max (if (ii k).testBit i then max (gro oo ii tb k i) (tb (2 * i)) else gro oo ii tb k i) (tb (2 * i + 1)) else (if (ii k).testBit i then max (gro oo ii tb k i) (tb (2 * i)) else gro oo ii tb k i) := by
  have e : gro oo ii tb k (i + 1) = (if (oo k).testBit i && decide ((if (ii k).testBit i && decide (gro oo ii tb k i < tb (2 * i)) then tb (2 * i) else gro oo ii tb k i) < tb (2 * i + 1)) then tb (2 * i + 1) else (if (ii k).testBit i && decide (gro oo ii tb k i < tb (2 * i)) then tb (2 * i) else gro oo ii tb k i)) := rfl
  rw [e, gmx, gmx]
theorem gro_le {oo ii tb : Nat → Nat} {k B : Nat} : ∀ i : Nat, gro oo ii tb k i ≤ B ↔ ∀ j, j < i → ((ii k).testBit j = true → tb (2 * j) ≤ B) ∧ ((oo k).testBit j = true → tb (2 * j + 1) ≤ B)
  | 0 => ⟨fun _ j hj => absurd hj (Nat.not_lt_zero j), fun _ => Nat.zero_le B⟩
  | i + 1 => by
    have ih := gro_le (oo := oo) (ii := ii) (tb := tb) (k := k) (B := B) i
    have h1 : (if (ii k).testBit i then max (gro oo ii tb k i) (tb (2 * i)) else gro oo ii tb k i) ≤ B ↔ (gro oo ii tb k i ≤ B ∧ ((ii k).testBit i = true → tb (2 * i) ≤ B)) := by
      split
      · rename_i h
        rw [Nat.max_le]
        exact ⟨fun ⟨a, b⟩ => ⟨a, fun _ => b⟩, fun ⟨a, b⟩ => ⟨a, b h⟩⟩
      · rename_i h
        exact ⟨fun a => ⟨a, fun b => absurd b h⟩, fun a => a.1⟩
    have h2 : gro oo ii tb k (i + 1) ≤ B ↔ ((if (ii k).testBit i then max (gro oo ii tb k i) (tb (2 * i)) else gro oo ii tb k i) ≤ B ∧ ((oo k).testBit i = true → tb (2 * i + 1) ≤ B)) := by
      rw [gro_s]
      by_cases h : (oo k).testBit i = true
      · rw [if_pos h, Nat.max_le]
        exact ⟨fun ⟨a, b⟩ => ⟨a, fun _ => b⟩, fun ⟨a, b⟩ => ⟨a, b h⟩⟩
      · rw [if_neg h]
        exact ⟨fun a => ⟨a, fun b => absurd b h⟩, fun a => a.1⟩
    rw [h2, h1, ih]
    refine ⟨fun ⟨⟨a, b⟩, c⟩ j hj => ?_, fun h => ⟨⟨fun j hj => h j (by omega), (h i (by omega)).1⟩, (h i (by omega)).2⟩⟩
    rcases Nat.lt_or_ge j i with q | q
    · exact a j q
    · rw [show j = i by omega]
      exact ⟨b, c⟩
def TIK (tk tb : Nat → Nat) : Prop := ∀ c, c < 6 → tk c = tb (2 * c) ∧ tk (c + 6) = tb (2 * c + 1)
theorem t_lon {n : Nat} {en st oo ii tk tb : Nat → Nat} (T : TXT n en st oo ii) (K : TIK tk tb) {k : Nat} (hk : k < n) : lon tk (en k) 12 = gro oo ii tb k 6 := by
  obtain ⟨hn, hen, hst, hoo, hii, he, hs, hd⟩ := T
  have hb : ∀ B, lon tk (en k) 12 ≤ B ↔ gro oo ii tb k 6 ≤ B := by
    intro B
    rw [lon_le, gro_le, he k hk]
    constructor
    · intro h j hj
      refine ⟨fun hb => ?_, fun hb => ?_⟩
      · have := h j (by omega) (by rw [enb (hii k), if_pos hj]; exact hb)
        rwa [(K j hj).1] at this
      · have := h (j + 6) (by omega) (by rw [enb (hii k), if_neg (by omega), Nat.add_sub_cancel]; exact hb)
        rwa [(K j hj).2] at this
    · intro h j hj hbj
      rw [enb (hii k)] at hbj
      by_cases hj6 : j < 6
      · rw [if_pos hj6] at hbj
        rw [(K j hj6).1]
        exact (h j hj6).1 hbj
      · rw [if_neg hj6] at hbj
        have := (h (j - 6) (by omega)).2 hbj
        rw [← (K (j - 6) (by omega)).2, show j - 6 + 6 = j by omega] at this
        exact this
  exact Nat.le_antisymm ((hb _).mpr (Nat.le_refl _)) ((hb _).mp (Nat.le_refl _))
theorem t_sum {n : Nat} {en st oo ii tk tb : Nat → Nat} (T : TXT n en st oo ii) (K : TIK tk tb) : sumP tk en n = sumR oo ii tb n := by
  unfold sumP sumR
  exact fo_congr (fun j x hj => by rw [t_lon T K hj])
theorem t_slo {n : Nat} {en st oo ii tk tb : Nat → Nat} (T : TXT n en st oo ii) (K : TIK tk tb) (h1 : ∀ e, e < 12 → 1 ≤ tk e) (hn0 : 0 < n) : (slo tk en n).1 = nI (sloR oo ii tb n) := by
  have hpos : 0 < lon tk (en 0) 12 := by
    obtain ⟨hn, hen, hst, hoo, hii, he, hs, hd⟩ := T
    rcases Nat.eq_zero_or_pos (lon tk (en 0) 12) with q | q
    · exfalso
      have hz := (lon_le (tk := tk) (e := en 0) (B := 0) 12).mp (by omega)
      apply (hd 0 hn0).2
      have hb : ∀ j, j < 12 → (en 0).testBit j = false := fun j hj => by
        cases hb : (en 0).testBit j with
        | false => rfl
        | true =>
          have := hz j hj hb
          have := h1 j hj
          omega
      refine z_of (fun i => ?_)
      rw [Nat.testBit_or]
      by_cases hi : i < 6
      · have b1 := hb i (by omega)
        have b2 := hb (i + 6) (by omega)
        rw [he 0 hn0, enb (hii 0), if_pos hi] at b1
        rw [he 0 hn0, enb (hii 0), if_neg (by omega), Nat.add_sub_cancel] at b2
        rw [b1, b2]
        rfl
      · rw [bt_hi (hoo 0) (Nat.not_lt.mp hi), bt_hi (hii 0) (Nat.not_lt.mp hi)]
        rfl
    · exact q
  have key : ∀ i, i < n → slo tk en (i + 1) = (nI (sloR oo ii tb (i + 1)), lon tk (en (sloR oo ii tb (i + 1))) 12) := by
    intro i
    induction i with
    | zero =>
      intro _
      have e1 : slo tk en (0 + 1) = if (0 : Nat) < lon tk (en 0) 12 then (nI 0, lon tk (en 0) 12) else (-1, 0) := rfl
      have e2 : sloR oo ii tb (0 + 1) = if gro oo ii tb 0 6 < gro oo ii tb 0 6 then 0 else 0 := rfl
      rw [e1, e2, if_pos hpos, if_neg (Nat.lt_irrefl _)]
    | succ i ih =>
      intro hi
      have e1 : slo tk en (i + 1 + 1) = if (slo tk en (i + 1)).2 < lon tk (en (i + 1)) 12 then (nI (i + 1), lon tk (en (i + 1)) 12) else slo tk en (i + 1) := rfl
      have e2 : sloR oo ii tb (i + 1 + 1) = if gro oo ii tb (sloR oo ii tb (i + 1)) 6 < gro oo ii tb (i + 1) 6 then i + 1 else sloR oo ii tb (i + 1) := rfl
      have hz : sloR oo ii tb (i + 1) < n := sloR_lt hn0 (i + 1) (by omega)
      rw [e1, e2, ih (by omega)]
      show (if lon tk (en (sloR oo ii tb (i + 1))) 12 < lon tk (en (i + 1)) 12 then _ else _) = _
      rw [← t_lon T K hz, ← t_lon T K hi]
      by_cases h : lon tk (en (sloR oo ii tb (i + 1))) 12 < lon tk (en (i + 1)) 12
      · rw [if_pos h, if_pos h]
      · rw [if_neg h, if_neg h]
  obtain ⟨i, rfl⟩ : ∃ i, n = i + 1 := ⟨n - 1, by omega⟩
  rw [key i (Nat.lt_succ_self i)]
/-- the laws, as both have them -/
def LWS (nl : Nat) (ba wh aA aB : Nat → Nat) (aO aI : Nat → Bool) : Prop := nl ≤ 12 ∧ (∀ k, ba k < 12) ∧ (∀ k, wh k < 12) ∧ (∀ k, aA k < 6) ∧ (∀ k, aB k < 6) ∧ ∀ k, k < nl → ba k = enE (aA k) (aO k) ∧ wh k = enE (aB k) (aI k)
theorem enE_bit {a b c : Nat} {o : Bool} (hb : b < 64) (hc : c < 6) : (a <<< 6 ||| b).testBit (enE c o) = (if o then a else b).testBit c := by
  rw [enb hb]
  cases o
  · show (if c < 6 then b.testBit c else a.testBit (c - 6)) = b.testBit c
    rw [if_pos hc]
  · show (if c + 6 < 6 then b.testBit (c + 6) else a.testBit (c + 6 - 6)) = a.testBit c
    rw [if_neg (by omega), Nat.add_sub_cancel]
theorem enE_sen {st c : Nat} {o : Bool} (hc : c < 6) : (sen st).testBit (enE c o) = decide (st.testBit c = o) := by
  rw [sen_bit]
  cases o
  · show (if c < 6 then !st.testBit c else st.testBit (c - 6)) = _
    rw [if_pos hc]
    cases st.testBit c <;> rfl
  · show (if c + 6 < 6 then !st.testBit (c + 6) else st.testBit (c + 6 - 6)) = _
    rw [if_neg (by omega), Nat.add_sub_cancel]
    cases st.testBit c <;> rfl
theorem enE_cy {c : Nat} {o : Bool} (hc : c < 6) : cyE (enE c o) = c := by
  cases o
  · show (if c < 6 then c else c - 6) = c
    rw [if_pos hc]
  · show (if c + 6 < 6 then c + 6 else c + 6 - 6) = c
    rw [if_neg (by omega), Nat.add_sub_cancel]
theorem t_brk {nl : Nat} {ba wh aA aB : Nat → Nat} {aO aI : Nat → Bool} (L : LWS nl ba wh aA aB aO aI) {a b st i : Nat} (hb : b < 64) (hi : i < nl) : brk ba wh (a <<< 6 ||| b) st i = bkO aA aB aO aI a b st i := by
  obtain ⟨h0, h1, h2, h3, h4, h5⟩ := L
  unfold brk bkO
  rw [(h5 i hi).1, (h5 i hi).2, enE_bit hb (h3 i), enE_sen (h4 i), enE_cy (h4 i)]
  unfold cyl
  rw [en_o hb, en_i hb]
theorem bkR_fs (aA aB : Nat → Nat) (aO aI : Nat → Bool) (o b st : Nat) (i : Nat) : bkR aA aB aO aI o b st i = decide (fs (bkO aA aB aO aI o b st) i < i) := by
  have key : ∀ i, (bkR aA aB aO aI o b st i = true ↔ ∃ j, j < i ∧ bkO aA aB aO aI o b st j = true) := by
    intro i
    induction i with
    | zero => exact ⟨fun h => (by cases h), fun ⟨j, h, _⟩ => absurd h (Nat.not_lt_zero j)⟩
    | succ i ih =>
      show (bkR aA aB aO aI o b st i || bkO aA aB aO aI o b st i) = true ↔ _
      rw [Bool.or_eq_true, ih]
      refine ⟨fun h => ?_, fun ⟨j, hj, hb⟩ => ?_⟩
      · rcases h with ⟨j, hj, hb⟩ | hb
        · exact ⟨j, by omega, hb⟩
        · exact ⟨i, by omega, hb⟩
      · rcases Nat.lt_or_ge j i with q | q
        · exact Or.inl ⟨j, q, hb⟩
        · rw [show j = i by omega] at hb
          exact Or.inr hb
  by_cases h : fs (bkO aA aB aO aI o b st) i < i
  · rw [decide_eq_true h]
    exact (key i).mpr ⟨_, h, fs_yes h⟩
  · rw [decide_eq_false h]
    cases hb : bkR aA aB aO aI o b st i with
    | false => rfl
    | true =>
      obtain ⟨j, hj, hbj⟩ := (key i).mp hb
      have := fs_no (P := bkO aA aB aO aI o b st) (n := i) (j := j) (by omega)
      rw [hbj] at this
      cases this
theorem t_alw {nl : Nat} {ba wh aA aB : Nat → Nat} {aO aI : Nat → Bool} (L : LWS nl ba wh aA aB aO aI) {a b st : Nat} (hb : b < 64) : (!alw ba wh nl (a <<< 6 ||| b) st) = bkR aA aB aO aI a b st nl := by
  rw [bkR_fs]
  unfold alw
  rw [fs_congr (fun j hj => t_brk L (a := a) (st := st) hb hj)]
  by_cases h : fs (bkO aA aB aO aI a b st) nl < nl
  · simp [h]
  · simp [h]
theorem mv_o : ∀ s, s < 64 → ∀ c, c < 6 → anN (1 <<< c) s = if s.testBit c then 0 else 1 <<< c := by decide +kernel
theorem mv_i : ∀ s, s < 64 → ∀ c, c < 6 → (1 <<< c) &&& s = if s.testBit c then 1 <<< c else 0 := by decide +kernel
theorem t_mv {nl : Nat} {ba wh aA aB : Nat → Nat} {aO aI : Nat → Bool} (L : LWS nl ba wh aA aB aO aI) {s c : Nat} (hs : s < 64) (hc : c < 6) : alM ba wh nl s c = mvR aA aB aO aI nl s c := by
  have h := t_alw L (a := anN (1 <<< c) s) (b := (1 <<< c) &&& s) (st := s) (Nat.lt_of_le_of_lt Nat.and_le_right hs)
  unfold alM mvR mvE
  rw [← mv_o s hs c hc, ← mv_i s hs c hc, ← h, Bool.not_not]
/-- how far each state is: 0, none, else one more than the moves -/
def DOK (aw : Nat → Nat → Bool) (dp : Nat → Nat) : Prop := dp 0 = 1 ∧ (∀ s, s < 64 → s ≠ 0 → ¬ dp s = 0 → ∃ c, c < 6 ∧ aw s c = true ∧ ¬ dp (s ^^^ 1 <<< c) = 0 ∧ dp (s ^^^ 1 <<< c) + 1 = dp s) ∧ (∀ s, s < 64 → ∀ c, c < 6 → aw s c = true → ¬ dp (s ^^^ 1 <<< c) = 0 → ¬ dp s = 0 ∧ dp s ≤ dp (s ^^^ 1 <<< c) + 1) ∧ ∀ k, dp k < 1000
theorem t_ways {aw mm : Nat → Nat → Bool} {dp w : Nat → Nat} (D : DOK aw dp) (h : INVW mm w) (hf : FIXW mm w) (he : ∀ s, s < 64 → ∀ c, c < 6 → aw s c = mm s c) : ∀ s, s < 64 → w s = if dp s = 0 then 1000 else dp s - 1 := by
  obtain ⟨d0, d1, d2, d3⟩ := D
  have up : ∀ d s, s < 64 → dp s = d + 1 → w s ≤ d := by
    intro d
    induction d with
    | zero =>
      intro s hs hd
      by_cases h0 : s = 0
      · rw [h0, h.1]
        exact Nat.le_refl 0
      · obtain ⟨c, hc, -, h1, h2⟩ := d1 s hs h0 (by omega)
        omega
    | succ d ih =>
      intro s hs hd
      by_cases h0 : s = 0
      · rw [h0, h.1]
        exact Nat.zero_le _
      · obtain ⟨c, hc, ha, h1, h2⟩ := d1 s hs h0 (by omega)
        have h3 := ih _ (xb_lt s hs c hc) (by omega)
        have h4 := hf s hs c hc (by rw [← he s hs c hc]; exact ha)
        omega
  have dn : ∀ d s, s < 64 → w s ≤ d → w s < 1000 → ¬ dp s = 0 ∧ dp s ≤ w s + 1 := by
    intro d
    induction d with
    | zero =>
      intro s hs hd hl
      by_cases h0 : s = 0
      · rw [h0, d0]
        exact ⟨by omega, by omega⟩
      · obtain ⟨c, hc, hm, hle⟩ := h.2.2.1 s hs h0 hl
        omega
    | succ d ih =>
      intro s hs hd hl
      by_cases h0 : s = 0
      · rw [h0, d0]
        exact ⟨by omega, by omega⟩
      · obtain ⟨c, hc, hm, hle⟩ := h.2.2.1 s hs h0 hl
        obtain ⟨h1, h2⟩ := ih _ (xb_lt s hs c hc) (by omega) (by omega)
        obtain ⟨h3, h4⟩ := d2 s hs c hc (by rw [he s hs c hc]; exact hm) h1
        exact ⟨h3, by omega⟩
  intro s hs
  have hw := h.2.1 s hs
  have h3 := d3 s
  by_cases hz : dp s = 0
  · rw [if_pos hz]
    rcases Nat.lt_or_ge (w s) 1000 with q | q
    · exact absurd hz (dn (w s) s hs (Nat.le_refl _) q).1
    · omega
  · rw [if_neg hz]
    have h1 := up (dp s - 1) s hs (by omega)
    have h2 := dn (w s) s hs (Nat.le_refl _) (by omega)
    omega
theorem t_nx {aw mm : Nat → Nat → Bool} {dp w : Nat → Nat} (hw : ∀ s, s < 64 → w s = if dp s = 0 then 1000 else dp s - 1) (hd : ∀ k, dp k < 1000) (he : ∀ s, s < 64 → ∀ c, c < 6 → aw s c = mm s c) {s : Nat} (hs : s < 64) (h1 : 1 < dp s) : fs (nxP aw dp s) 6 = nxR mm w s := by
  unfold nxR
  refine fs_congr (fun c hc => ?_)
  unfold nxP nxQ
  rw [he s hs c hc]
  congr 1
  refine decide_eq_decide.mpr ?_
  have hx := hw _ (xb_lt s hs c hc)
  have h2 := hw s hs
  have h3 := hd (s ^^^ 1 <<< c)
  have h4 := hd s
  rw [if_neg (by omega)] at h2
  rw [hx, h2]
  split <;> omega
theorem t_way {aw mm : Nat → Nat → Bool} {dp w : Nat → Nat} (D : DOK aw dp) (h : INVW mm w) (hf : FIXW mm w) (he : ∀ s, s < 64 → ∀ c, c < 6 → aw s c = mm s c) {st i : Nat} (hst : st < 64) : mvC aw dp st i = wyR mm w st i := by
  have hw := t_ways D h hf he
  have hd := D.2.2.2
  have hnx : ∀ s, s < 64 → 1 < dp s → nxt aw dp s = nxR mm w s ∧ nxR mm w s < 6 ∧ dp (s ^^^ 1 <<< nxR mm w s) + 1 = dp s := by
    intro s hs h1
    have e := t_nx hw hd he hs h1
    have hl : nxR mm w s < 6 := nxR_lt h hf hs (by rw [hw s hs, if_neg (by omega)]; omega) (by have := hd s; rw [hw s hs, if_neg (by omega)]; omega)
    refine ⟨?_, hl, ?_⟩
    · unfold nxt
      rw [e, if_pos hl]
    · have := fs_yes (P := nxP aw dp s) (n := 6) (by rw [e]; exact hl)
      rw [e] at this
      exact of_decide_eq_true (Bool.and_eq_true_iff.mp this).1
  have key : ∀ k, k + 1 < dp st → wlk aw dp st k = wlR mm w st k ∧ wlR mm w st k < 64 ∧ dp (wlR mm w st k) + k = dp st := by
    intro k
    induction k with
    | zero => intro _; exact ⟨rfl, hst, rfl⟩
    | succ k ih =>
      intro hk
      obtain ⟨h1, h2, h3⟩ := ih (by omega)
      obtain ⟨g1, g2, g3⟩ := hnx _ h2 (by omega)
      have e1 : wlk aw dp st (k + 1) = wlk aw dp st k ^^^ 1 <<< nxt aw dp (wlk aw dp st k) := rfl
      have e2 : wlR mm w st (k + 1) = wlR mm w st k ^^^ 1 <<< nxR mm w (wlR mm w st k) := rfl
      rw [e1, e2, h1, g1]
      exact ⟨rfl, xb_lt _ h2 _ g2, by omega⟩
  have hs := hw st hst
  have hds := hd st
  unfold mvC wyR
  by_cases hi : i + 1 < dp st
  · obtain ⟨h1, h2, h3⟩ := key i hi
    obtain ⟨g1, g2, g3⟩ := hnx _ h2 (by omega)
    rw [if_neg (by omega)] at hs
    rw [if_pos hi, h1, g1, if_neg (show ¬ (w st = 1000 ∨ w st ≤ i) by omega)]
    unfold cdR
    congr 1
    split <;> rfl
  · rw [if_neg hi, if_pos]
    rw [hs]
    split
    · exact Or.inl rfl
    · exact Or.inr (by omega)
theorem t_home {aw mm : Nat → Nat → Bool} {dp w : Nat → Nat} (D : DOK aw dp) (h : INVW mm w) (hf : FIXW mm w) (he : ∀ s, s < 64 → ∀ c, c < 6 → aw s c = mm s c) {s : Nat} (hs : s < 64) : mI (dp s) = if w s = 1000 then -1 else nI (w s) := by
  have hw := t_ways D h hf he s hs
  have hd := D.2.2.2 s
  by_cases hz : dp s = 0
  · rw [hw, if_pos hz, if_pos rfl, hz]
    decide
  · rw [hw, if_neg hz, if_neg (by omega), q_m1N (by omega)]
