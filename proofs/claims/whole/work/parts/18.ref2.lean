/-! ===== the reference: groups, clashes ===== -/
/-- may these cuts be: fuel, i, what has moved -/
def mcL (oo ii : Nat → Nat) (n set f0 : Nat) : Nat → Nat → Nat → Bool
  | 0, _, _ => true
  | f + 1, i, mo => if (if set.testBit ((f0 + i) % n) then 0 else mo) &&& (oo ((f0 + i) % n) ||| ii ((f0 + i) % n)) = 0 then mcL oo ii n set f0 f (i + 1) ((if set.testBit ((f0 + i) % n) then 0 else mo) ||| (oo ((f0 + i) % n) ||| ii ((f0 + i) % n))) else false
theorem mcL_s (oo ii : Nat → Nat) (n set f0 f i mo : Nat) : mcL oo ii n set f0 (f + 1) i mo = if (if set.testBit ((f0 + i) % n) then 0 else mo) &&& (oo ((f0 + i) % n) ||| ii ((f0 + i) % n)) = 0 then mcL oo ii n set f0 f (i + 1) ((if set.testBit ((f0 + i) % n) then 0 else mo) ||| (oo ((f0 + i) % n) ||| ii ((f0 + i) % n))) else false := rfl
def lob (set : Nat) : Nat := fs (fun c => set.testBit c) 16
def mayC (oo ii : Nat → Nat) (n set : Nat) : Bool := mcL oo ii n set (lob set) n 0 0
theorem lob_lt {set : Nat} (h0 : ¬ set = 0) (h : set < 65536) : lob set < 16 := by
  rcases Nat.lt_or_ge (lob set) 16 with q | q
  · exact q
  · exfalso
    apply h0
    refine Nat.eq_of_testBit_eq (fun i => ?_)
    rw [Nat.zero_testBit]
    rcases Nat.lt_or_ge i 16 with hi | hi
    · exact fs_no (P := fun c => set.testBit c) (n := 16) (Nat.lt_of_lt_of_le hi q)
    · exact Nat.testBit_lt_two_pow (Nat.lt_of_lt_of_le h (show 65536 ≤ 2 ^ i from Nat.pow_le_pow_right (n := 2) (i := 16) (by decide) hi))
theorem lob_bit {set : Nat} (h : lob set < 16) : set.testBit (lob set) = true := fs_yes (P := fun c => set.testBit c) h
def cmF (a b : Nat) : Bool := decide (¬ nI (a &&& (a ^^^ b)) &&& (-nI (a ^^^ b)) = 0)
def btr (a b : Nat) : Bool := decide (popc a < popc b) || (decide (popc a = popc b) && cmF a b)
def fcS (oo ii : Nat → Nat) (n j ct : Nat) : Nat := if btr (j + 1) ct && mayC oo ii n (j + 1) then j + 1 else ct
def fcF (oo ii : Nat → Nat) (n j : Nat) : Nat := fo (fcS oo ii n) (1 <<< n - 1) j
theorem shn {n : Nat} (h : n ≤ 16) : 1 ≤ 1 <<< n ∧ 1 <<< n ≤ 65536 := by
  rw [Nat.one_shiftLeft]
  exact ⟨Nat.one_le_two_pow, Nat.pow_le_pow_right (n := 2) (by decide) h⟩
theorem shn2 {n : Nat} (h : 0 < n) : 2 ≤ 1 <<< n := by
  rw [Nat.one_shiftLeft]
  exact Nat.le_trans (by decide) (Nat.pow_le_pow_right (n := 2) (by decide) h)
theorem fcF_bd {oo ii : Nat → Nat} {n : Nat} (hn : 0 < n) : ∀ j, j + 1 ≤ 1 <<< n → 0 < fcF oo ii n j ∧ fcF oo ii n j < 1 <<< n
  | 0, _ => by
    have := shn2 hn
    show 0 < 1 <<< n - 1 ∧ 1 <<< n - 1 < 1 <<< n
    omega
  | j + 1, h => by
    obtain ⟨h1, h2⟩ := fcF_bd (oo := oo) (ii := ii) hn j (by omega)
    show 0 < fcS oo ii n j (fcF oo ii n j) ∧ fcS oo ii n j (fcF oo ii n j) < 1 <<< n
    unfold fcS
    split
    · omega
    · exact ⟨h1, h2⟩
def bgF (ct n : Nat) : Nat → Nat → Nat
  | 0, a => a
  | f + 1, a => if ct.testBit a then a else bgF ct n f (pr n a)
def bgR (ct n k : Nat) : Nat := bgF ct n 16 k
theorem bgF_hit {ct n a : Nat} (h : ct.testBit a = true) : ∀ f, bgF ct n f a = a
  | 0 => rfl
  | f + 1 => by show (if ct.testBit a then a else _) = a; rw [if_pos h]
def bgM (b n a : Nat) : Nat := if b ≤ a then a - b else a + n - b
theorem bgM_s {b n a : Nat} (hb : b < n) (ha : a < n) (h : ¬ a = b) : bgM b n (pr n a) < bgM b n a := by
  unfold bgM pr
  split <;> split <;> split <;> omega
theorem lo_step {q f : Nat} (hlt : lob q < 16) (h : f ≤ lob q) (hc : q.testBit f = false) : f + 1 ≤ lob q := by
  rcases Nat.lt_or_ge f (lob q) with a | a
  · exact a
  · have e : f = lob q := Nat.le_antisymm h a
    rcases Nat.lt_or_ge (lob q) 16 with b | b
    · have := lob_bit b
      rw [← e, hc] at this
      cases this
    · exfalso
      exact absurd hlt (Nat.not_lt.mpr b)
theorem lo_eq {q f : Nat} (h : f ≤ lob q) (hc : q.testBit f = true) : f = lob q := by
  rcases Nat.lt_or_ge f (lob q) with a | a
  · have this : q.testBit f = false := fs_no (P := fun c => q.testBit c) (n := 16) a
    rw [hc] at this
    cases this
  · exact Nat.le_antisymm h a
theorem lob_n {ct n b : Nat} (h : ct < 1 <<< n) (hb : ct.testBit b = true) : b < n := by
  rcases Nat.lt_or_ge b n with q | q
  · exact q
  · rw [Nat.one_shiftLeft] at h
    rw [Nat.testBit_lt_two_pow (Nat.lt_of_lt_of_le h (Nat.pow_le_pow_right (by decide) q))] at hb
    cases hb
theorem bgF_lt {ct n : Nat} : ∀ (f a : Nat), a < n → bgF ct n f a < n
  | 0, _, h => h
  | f + 1, a, h => by
    show (if ct.testBit a then a else bgF ct n f (pr n a)) < n
    split
    · exact h
    · exact bgF_lt f _ (pr_lt h)
def psR (oo ii ss : Nat → Nat) (n ct wy j k : Nat) : Bool := if wy = 0 then onR oo ii n j (ss k) else (decide (bgR ct n j = bgR ct n k) && (decide (bgR ct n j = j) || onR oo ii n j (ss k)))
def clR (oo ii ss : Nat → Nat) (n ct wy k i : Nat) : Nat := fo (fun j a => if psR oo ii ss n ct wy j k then a ||| ((oo k &&& ii j) ||| (ii k &&& oo j)) else a) 0 i
theorem clR_lt {oo ii ss : Nat → Nat} {n ct wy k : Nat} (ho : ∀ k, oo k < 64) (hi : ∀ k, ii k < 64) : ∀ i : Nat, clR oo ii ss n ct wy k i < 64
  | 0 => by show 0 < 64; omega
  | i + 1 => by
    show (if psR oo ii ss n ct wy i k then clR oo ii ss n ct wy k i ||| ((oo k &&& ii i) ||| (ii k &&& oo i)) else clR oo ii ss n ct wy k i) < 64
    split
    · exact Nat.or_lt_two_pow (n := 6) (clR_lt ho hi i) (Nat.or_lt_two_pow (n := 6) (Nat.lt_of_le_of_lt Nat.and_le_left (ho k)) (Nat.lt_of_le_of_lt Nat.and_le_left (hi k)))
    · exact clR_lt ho hi i
def crP (oo ii ss : Nat → Nat) (n ct wy k : Nat) : Bool := decide (¬ clR oo ii ss n ct wy k n = 0)
def crO (oo ii ss : Nat → Nat) (n ct wy : Nat) : Int32 := if fs (crP oo ii ss n ct wy) n < n then fsI (fun c => (clR oo ii ss n ct wy (fs (crP oo ii ss n ct wy) n) n).testBit c) 6 else -1
set_option maxHeartbeats 4000000 in
set_option maxRecDepth 100000 in
theorem c_X6_mayCut (l : Launch) (D : va_G) (cI cZ : ClassId) (mx : Nat) (m1 : Nat) (m2 : Nat) (m3 : Nat) (m4 : Nat) (m5 : Nat) (m6 : Nat) (m7 : Nat) (m8 : Nat) (m9 : Nat) (m10 : Nat) (n : Nat) (nl : Nat) (ct : Nat) (oo : Nat → Nat) (ii : Nat → Nat) (q1 : Nat) (hn : n ≤ 16) (hoo : ∀ k, oo k < 64) (hii : ∀ k, ii k < 64) (hn0 : 0 < n) (hq0 : ¬ q1 = 0) (hq1 : q1 < 65536) : MI l D cI cZ yX6_mayCut wsX6_mayCut ({ frames := 0, cells := 0, slots := 0, locals := 0 }) [.ref mx, .int (nI q1)] [(mx, .inr (6, [.int (nI n), .ref m1, .ref m2, .ref m3, .ref m4, .int (nI nl), .ref m5, .ref m6, .ref m7, .ref m8, .ref m9, .int (nI ct), .ref m10])), (m1, .inl (cI, 16, .inl (iA oo))), (m2, .inl (cI, 16, .inl (iA ii)))] (fun r w => r = (bI (mayC oo ii n q1)) ∧ w = [(mx, .inr (6, [.int (nI n), .ref m1, .ref m2, .ref m3, .ref m4, .int (nI nl), .ref m5, .ref m6, .ref m7, .ref m8, .ref m9, .int (nI ct), .ref m10])), (m1, .inl (cI, 16, .inl (iA oo))), (m2, .inl (cI, 16, .inl (iA ii)))]) := by
  refine MI.of (cc := cX6_mayCut) (maxL := 7) (ret := (some .boolean)) (own := RX6) (by decide) rfl rfl (Nat.le_of_ble_eq_true rfl) ?_
  intro pQ eQ s mQ args below meth cQ A X hw ls hl
  obtain ⟨⟨hx, hb, hml, hown, hts⟩, hr, hlk, hK, hN, hA⟩ := id X
  have hl : lv_has ls 7 [(0, .ref mx), (1, .int (nI q1))] := hl
  have n6 : ∀ w ∈ wsX60, w ∈ wsX6_mayCut := by decide +kernel
  have f7 : FF args s RX6 wsX6_mayCut 7 6 1 := ⟨_, rfl, by decide, n6, hts (.fieldLink RX6 7 "AirStepsModel" "outs" "[I") (by decide +kernel)⟩
  have f13 : FF args s RX6 wsX6_mayCut 13 6 2 := ⟨_, rfl, by decide, n6, hts (.fieldLink RX6 13 "AirStepsModel" "ins" "[I") (by decide +kernel)⟩
  have f45 : FF args s RX6 wsX6_mayCut 45 6 0 := ⟨_, rfl, by decide, n6, hts (.fieldLink RX6 45 "AirStepsModel" "n" "I") (by decide +kernel)⟩
  have hlo := lob_lt hq0 hq1
  refine lv_iconst (v := nI 0) hx hb dX6_mayCut_0 (by decide) ?_
  refine lv_istore_n (lv' := [(2, .int (nI 0)), (0, .ref mx), (1, .int (nI q1))]) hx hb dX6_mayCut_1 rfl hl (by decide) rfl (fun ls hl => ?_)
  refine wl (α := Nat) (nL := 7) (fun aQ => 16 - aQ) (fun aQ => (aQ ≤ lob q1)) (fun aQ => [(mx, .inr (6, [.int (nI n), .ref m1, .ref m2, .ref m3, .ref m4, .int (nI nl), .ref m5, .ref m6, .ref m7, .ref m8, .ref m9, .int (nI ct), .ref m10])), (m1, .inl (cI, 16, .inl (iA oo))), (m2, .inl (cI, 16, .inl (iA ii)))]) (fun aQ => [(2, .int (nI aQ)), (0, .ref mx), (1, .int (nI q1))]) ?_ 0 (show 0 ≤ lob q1 from by omega) _ _ _ hw (lv_sub hl [0, 1, 2] rfl)
  rintro f hf H locs ls hw hl ih_2
  have hf : f ≤ lob q1 := hf
  have hw : WD D A s.heap [(mx, .inr (6, [.int (nI n), .ref m1, .ref m2, .ref m3, .ref m4, .int (nI nl), .ref m5, .ref m6, .ref m7, .ref m8, .ref m9, .int (nI ct), .ref m10])), (m1, .inl (cI, 16, .inl (iA oo))), (m2, .inl (cI, 16, .inl (iA ii)))] H locs := hw
  have hl : lv_has ls 7 [(2, .int (nI f)), (0, .ref mx), (1, .int (nI q1))] := hl
  refine lv_iload_n hx hb dX6_mayCut_2 rfl (lv_at hl 2 rfl) ?_
  refine lv_iload_n hx hb dX6_mayCut_3 rfl (lv_at hl 0 rfl) ?_
  refine lv_ishr hx hb dX6_mayCut_4 ?_
  refine cv_i (show (nI q1) >>> (nI f &&& 31) = nI (q1 >>> f) from q_shr q1 f (by first | omega | assumption) (by first | omega | assumption)) ?_
  refine lv_iconst (v := nI 1) hx hb dX6_mayCut_5 (by decide) ?_
  refine lv_iand hx hb dX6_mayCut_6 ?_
  refine cv_i (show nI (q1 >>> f) &&& nI 1 = bI (q1.testBit f) from q_bit q1 f) ?_
  refine lv_if_ne (tgt := 16) hx hb dX6_mayCut_7 (by decide) (fun c_7 => ?_) (fun c_7 => ?_)
  · skip
    rw [q_b0] at c_7; try simp only [Bool.not_eq_false] at c_7
    refine lv_iconst (v := nI 0) hx hb dX6_mayCut_16 (by decide) ?_
    refine lv_istore_n (lv' := [(3, .int (nI 0)), (2, .int (nI f)), (0, .ref mx), (1, .int (nI q1))]) hx hb dX6_mayCut_17 rfl hl (by decide) rfl (fun ls hl => ?_)
    refine lv_iconst (v := nI 0) hx hb dX6_mayCut_18 (by decide) ?_
    refine lv_istore (lv' := [(4, .int (nI 0)), (3, .int (nI 0)), (2, .int (nI f)), (0, .ref mx), (1, .int (nI q1))]) hx hb dX6_mayCut_19 hl (by decide) rfl (fun ls hl => ?_)
    refine wl (α := Nat × Nat) (nL := 7) (fun aQ => n - aQ.2) (fun aQ => (aQ.2 ≤ n) ∧ (aQ.1 < 64) ∧ (mayC oo ii n q1 = mcL oo ii n q1 f (n - aQ.2) aQ.2 aQ.1)) (fun aQ => [(mx, .inr (6, [.int (nI n), .ref m1, .ref m2, .ref m3, .ref m4, .int (nI nl), .ref m5, .ref m6, .ref m7, .ref m8, .ref m9, .int (nI ct), .ref m10])), (m1, .inl (cI, 16, .inl (iA oo))), (m2, .inl (cI, 16, .inl (iA ii)))]) (fun aQ => [(4, .int (nI aQ.2)), (3, .int (nI aQ.1)), (2, .int (nI f)), (0, .ref mx), (1, .int (nI q1))]) ?_ (0, 0) ⟨(show 0 ≤ n from by omega), (show 0 < 64 from by omega), (show mayC oo ii n q1 = mcL oo ii n q1 f (n - 0) 0 0 from by rw [show f = lob q1 from lo_eq hf c_7]; rfl)⟩ _ _ _ hw (lv_sub hl [0, 1, 2, 3, 4] rfl)
    rintro ⟨mo, i⟩ ⟨hi, hmo, hR⟩ H locs ls hw hl ih_21
    have hi : i ≤ n := hi
    have hmo : mo < 64 := hmo
    have hR : mayC oo ii n q1 = mcL oo ii n q1 f (n - i) i mo := hR
    have hw : WD D A s.heap [(mx, .inr (6, [.int (nI n), .ref m1, .ref m2, .ref m3, .ref m4, .int (nI nl), .ref m5, .ref m6, .ref m7, .ref m8, .ref m9, .int (nI ct), .ref m10])), (m1, .inl (cI, 16, .inl (iA oo))), (m2, .inl (cI, 16, .inl (iA ii)))] H locs := hw
    have hl : lv_has ls 7 [(4, .int (nI i)), (3, .int (nI mo)), (2, .int (nI f)), (0, .ref mx), (1, .int (nI q1))] := hl
    refine lv_iload hx hb dX6_mayCut_21 (lv_at hl 0 rfl) ?_
    refine lv_aload_n hx hb dX6_mayCut_23 rfl (lv_at hl 3 rfl) ?_
    refine x_get X hw f45 0 rfl rfl dX6_mayCut_24 ?_
    refine lv_icmp_ge (tgt := 94) hx hb dX6_mayCut_27 (by decide) (fun c_27 => ?_) (fun c_27 => ?_)
    · skip
      rw [nI_leI (by omega) (by omega)] at c_27
      refine lv_iconst (v := nI 1) hx hb dX6_mayCut_94 (by decide) ?_
      refine cv_i (show nI 1 = bI true from by decide) ?_
      exact x_zret X hw (⟨(congrArg bI (by rw [hR, show n - i = 0 by omega]; rfl)), rfl⟩) dX6_mayCut_95
    · skip
      rw [nI_leI (by omega) (by omega)] at c_27
      refine lv_iload_n hx hb dX6_mayCut_30 rfl (lv_at hl 2 rfl) ?_
      refine lv_iload hx hb dX6_mayCut_31 (lv_at hl 0 rfl) ?_
      refine lv_iadd hx hb dX6_mayCut_33 ?_
      refine cv_i (show nI f + nI i = nI (f + i) from nI_add f i) ?_
      refine lv_aload_n hx hb dX6_mayCut_34 rfl (lv_at hl 3 rfl) ?_
      refine x_get X hw f45 0 rfl rfl dX6_mayCut_35 ?_
      refine lv_irem hx hb dX6_mayCut_38 (by rw [q_eq0 (by omega)]; omega) ?_
      refine cv_i (show nI (f + i) - nI (f + i) / nI n * nI n = nI ((f + i) % n) from pk_rem (by omega) (by omega) (by omega)) ?_
      refine lv_istore (lv' := [(5, .int (nI ((f + i) % n))), (4, .int (nI i)), (3, .int (nI mo)), (2, .int (nI f)), (0, .ref mx), (1, .int (nI q1))]) hx hb dX6_mayCut_39 hl (by decide) rfl (fun ls hl => ?_)
      refine wj (α := Nat) (nL := 7) 56 (fun aQ => (aQ = if q1.testBit ((f + i) % n) then 0 else mo) ∧ (aQ < 64)) (fun aQ => [(mx, .inr (6, [.int (nI n), .ref m1, .ref m2, .ref m3, .ref m4, .int (nI nl), .ref m5, .ref m6, .ref m7, .ref m8, .ref m9, .int (nI ct), .ref m10])), (m1, .inl (cI, 16, .inl (iA oo))), (m2, .inl (cI, 16, .inl (iA ii)))]) (fun aQ => [(5, .int (nI ((f + i) % n))), (4, .int (nI i)), (3, .int (nI mo)), (2, .int (nI f)), (0, .ref mx), (1, .int (nI q1))]) (fun aQ => [.int (nI aQ)]) (D := D) (A := A) (H0 := s.heap) (fun J56 => ?_) ?_
      · skip
        have hmod : (f + i) % n < n := Nat.mod_lt _ hn0
        refine lv_iload_n hx hb dX6_mayCut_41 rfl (lv_at hl 5 rfl) ?_
        refine lv_iload hx hb dX6_mayCut_42 (lv_at hl 0 rfl) ?_
        refine lv_ishr hx hb dX6_mayCut_44 ?_
        refine cv_i (show (nI q1) >>> (nI ((f + i) % n) &&& 31) = nI (q1 >>> ((f + i) % n)) from q_shr q1 ((f + i) % n) (by first | omega | assumption) (by first | omega | assumption)) ?_
        refine lv_iconst (v := nI 1) hx hb dX6_mayCut_45 (by decide) ?_
        refine lv_iand hx hb dX6_mayCut_46 ?_
        refine cv_i (show nI (q1 >>> ((f + i) % n)) &&& nI 1 = bI (q1.testBit ((f + i) % n)) from q_bit q1 ((f + i) % n)) ?_
        refine lv_iconst (v := nI 1) hx hb dX6_mayCut_47 (by decide) ?_
        refine lv_icmp_ne (tgt := 55) hx hb dX6_mayCut_48 (by decide) (fun c_48 => ?_) (fun c_48 => ?_)
        · skip
          rw [q_b1] at c_48; try simp only [Bool.not_eq_false, Bool.not_eq_true] at c_48
          refine lv_iload_n hx hb dX6_mayCut_55 rfl (lv_at hl 2 rfl) ?_
          exact J56 mo ⟨(show mo = if q1.testBit ((f + i) % n) then 0 else mo from by simp [c_48]), (show mo < 64 from by omega)⟩ _ _ _ hw (lv_sub hl [0, 1, 2, 3, 4, 5] rfl)
        · skip
          rw [q_b1] at c_48; try simp only [Bool.not_eq_false, Bool.not_eq_true] at c_48
          refine lv_iconst (v := nI 0) hx hb dX6_mayCut_51 (by decide) ?_
          refine lv_goto (tgt := 56) hx hb dX6_mayCut_52 (by decide) ?_
          exact J56 0 ⟨(show 0 = if q1.testBit ((f + i) % n) then 0 else mo from by simp [c_48]), (show 0 < 64 from by omega)⟩ _ _ _ hw (lv_sub hl [0, 1, 2, 3, 4, 5] rfl)
      · rintro v ⟨hv, hv64⟩ H locs ls hw hl
        have hv : v = if q1.testBit ((f + i) % n) then 0 else mo := hv
        have hv64 : v < 64 := hv64
        have hw : WD D A s.heap [(mx, .inr (6, [.int (nI n), .ref m1, .ref m2, .ref m3, .ref m4, .int (nI nl), .ref m5, .ref m6, .ref m7, .ref m8, .ref m9, .int (nI ct), .ref m10])), (m1, .inl (cI, 16, .inl (iA oo))), (m2, .inl (cI, 16, .inl (iA ii)))] H locs := hw
        have hl : lv_has ls 7 [(5, .int (nI ((f + i) % n))), (4, .int (nI i)), (3, .int (nI mo)), (2, .int (nI f)), (0, .ref mx), (1, .int (nI q1))] := hl
        have hmod : (f + i) % n < n := Nat.mod_lt _ hn0
        refine lv_istore_n (lv' := [(3, .int (nI v)), (5, .int (nI ((f + i) % n))), (4, .int (nI i)), (2, .int (nI f)), (0, .ref mx), (1, .int (nI q1))]) hx hb dX6_mayCut_56 rfl hl (by decide) rfl (fun ls hl => ?_)
        refine lv_aload_n hx hb dX6_mayCut_57 rfl (lv_at hl 4 rfl) ?_
        refine x_get X hw f7 0 rfl rfl dX6_mayCut_58 ?_
        refine lv_iload hx hb dX6_mayCut_61 (lv_at hl 1 rfl) ?_
        refine x_aldN X hw 1 rfl (by omega) (by omega) dX6_mayCut_63 ?_
        have hb_63 := hoo ((f + i) % n)
        refine lv_aload_n hx hb dX6_mayCut_64 rfl (lv_at hl 4 rfl) ?_
        refine x_get X hw f13 0 rfl rfl dX6_mayCut_65 ?_
        refine lv_iload hx hb dX6_mayCut_68 (lv_at hl 1 rfl) ?_
        refine x_aldN X hw 2 rfl (by omega) (by omega) dX6_mayCut_70 ?_
        have hb_70 := hii ((f + i) % n)
        refine lv_ior hx hb dX6_mayCut_71 ?_
        refine cv_i (show nI (oo ((f + i) % n)) ||| nI (ii ((f + i) % n)) = nI ((oo ((f + i) % n)) ||| (ii ((f + i) % n))) from q_or (oo ((f + i) % n)) (ii ((f + i) % n))) ?_
        refine lv_istore (lv' := [(6, .int (nI ((oo ((f + i) % n)) ||| (ii ((f + i) % n))))), (3, .int (nI v)), (5, .int (nI ((f + i) % n))), (4, .int (nI i)), (2, .int (nI f)), (0, .ref mx), (1, .int (nI q1))]) hx hb dX6_mayCut_72 hl (by decide) rfl (fun ls hl => ?_)
        refine lv_iload_n hx hb dX6_mayCut_74 rfl (lv_at hl 1 rfl) ?_
        refine lv_iload hx hb dX6_mayCut_75 (lv_at hl 0 rfl) ?_
        refine lv_iand hx hb dX6_mayCut_77 ?_
        refine cv_i (show nI v &&& nI ((oo ((f + i) % n)) ||| (ii ((f + i) % n))) = nI (v &&& ((oo ((f + i) % n)) ||| (ii ((f + i) % n)))) from q_and v ((oo ((f + i) % n)) ||| (ii ((f + i) % n)))) ?_
        refine lv_if_eq (tgt := 83) hx hb dX6_mayCut_78 (by decide) (fun c_78 => ?_) (fun c_78 => ?_)
        · skip
          rw [q_eq0 (Nat.lt_of_le_of_lt Nat.and_le_left (by omega))] at c_78
          refine lv_iload_n hx hb dX6_mayCut_83 rfl (lv_at hl 1 rfl) ?_
          refine lv_iload hx hb dX6_mayCut_84 (lv_at hl 0 rfl) ?_
          refine lv_ior hx hb dX6_mayCut_86 ?_
          refine cv_i (show nI v ||| nI ((oo ((f + i) % n)) ||| (ii ((f + i) % n))) = nI (v ||| ((oo ((f + i) % n)) ||| (ii ((f + i) % n)))) from q_or v ((oo ((f + i) % n)) ||| (ii ((f + i) % n)))) ?_
          refine lv_istore_n (lv' := [(3, .int (nI (v ||| ((oo ((f + i) % n)) ||| (ii ((f + i) % n)))))), (6, .int (nI ((oo ((f + i) % n)) ||| (ii ((f + i) % n))))), (5, .int (nI ((f + i) % n))), (4, .int (nI i)), (2, .int (nI f)), (0, .ref mx), (1, .int (nI q1))]) hx hb dX6_mayCut_87 rfl hl (by decide) rfl (fun ls hl => ?_)
          refine lv_iinc (v := nI (i + 1)) (lv' := [(4, .int (nI (i + 1))), (3, .int (nI (v ||| ((oo ((f + i) % n)) ||| (ii ((f + i) % n)))))), (6, .int (nI ((oo ((f + i) % n)) ||| (ii ((f + i) % n))))), (5, .int (nI ((f + i) % n))), (2, .int (nI f)), (0, .ref mx), (1, .int (nI q1))]) hx hb dX6_mayCut_88 hl (k := 3) rfl (nI_add i 1) (by decide) rfl (fun ls hl => ?_)
          refine lv_goto (tgt := 21) hx hb dX6_mayCut_91 (by decide) ?_
          exact ih_21 (v ||| ((oo ((f + i) % n)) ||| (ii ((f + i) % n))), i + 1) (by show n - (i + 1) < n - i; omega) ⟨(show (i + 1) ≤ n from by omega), (show (v ||| ((oo ((f + i) % n)) ||| (ii ((f + i) % n)))) < 64 from Nat.or_lt_two_pow (n := 6) hv64 (Nat.or_lt_two_pow (n := 6) (hoo _) (hii _))), (show mayC oo ii n q1 = mcL oo ii n q1 f (n - (i + 1)) (i + 1) (v ||| ((oo ((f + i) % n)) ||| (ii ((f + i) % n)))) from by rw [hR, show n - i = n - (i + 1) + 1 by omega, mcL_s, ← hv, if_pos c_78])⟩ _ _ _ hw (lv_sub hl [0, 1, 4, 5, 6] rfl)
        · skip
          rw [q_eq0 (Nat.lt_of_le_of_lt Nat.and_le_left (by omega))] at c_78
          refine lv_iconst (v := nI 0) hx hb dX6_mayCut_81 (by decide) ?_
          refine cv_i (show nI 0 = bI false from by decide) ?_
          exact x_zret X hw (⟨(congrArg bI (by rw [hR, show n - i = n - (i + 1) + 1 by omega, mcL_s, ← hv, if_neg c_78])), rfl⟩) dX6_mayCut_82
  · skip
    rw [q_b0] at c_7; try simp only [Bool.not_eq_false] at c_7
    refine lv_iinc (v := nI (f + 1)) (lv' := [(2, .int (nI (f + 1))), (0, .ref mx), (1, .int (nI q1))]) hx hb dX6_mayCut_10 hl (k := 0) rfl (nI_add f 1) (by decide) rfl (fun ls hl => ?_)
    refine lv_goto (tgt := 2) hx hb dX6_mayCut_13 (by decide) ?_
    exact ih_2 (f + 1) (by show 16 - (f + 1) < 16 - f; omega) (show (f + 1) ≤ lob q1 from lo_step hlo hf c_7) _ _ _ hw (lv_sub hl [0, 1, 2] rfl)
set_option maxHeartbeats 4000000 in
set_option maxRecDepth 100000 in
theorem c_X6_comesFirst (l : Launch) (D : va_G) (cI cZ : ClassId) (a : Nat) (b : Nat)  : MI l D cI cZ yX6_comesFirst wsX6_comesFirst ({ frames := 0, cells := 0, slots := 0, locals := 0 }) [.int (nI a), .int (nI b)] [] (fun r w => r = (bI (cmF a b)) ∧ w = []) := by
  refine MI.of (cc := cX6_comesFirst) (maxL := 3) (ret := (some .boolean)) (own := RX6) (by decide) rfl rfl (Nat.le_of_ble_eq_true rfl) ?_
  intro pQ eQ s mQ args below meth cQ A X hw ls hl
  obtain ⟨⟨hx, hb, hml, hown, hts⟩, hr, hlk, hK, hN, hA⟩ := id X
  have hl : lv_has ls 3 [(0, .int (nI a)), (1, .int (nI b))] := hl
  refine lv_iload_n hx hb dX6_comesFirst_0 rfl (lv_at hl 0 rfl) ?_
  refine lv_iload_n hx hb dX6_comesFirst_1 rfl (lv_at hl 1 rfl) ?_
  refine lv_ixor hx hb dX6_comesFirst_2 ?_
  refine cv_i (show nI a ^^^ nI b = nI (a ^^^ b) from q_xor a b) ?_
  refine lv_istore_n (lv' := [(2, .int (nI (a ^^^ b))), (0, .int (nI a)), (1, .int (nI b))]) hx hb dX6_comesFirst_3 rfl hl (by decide) rfl (fun ls hl => ?_)
  refine lv_iload_n hx hb dX6_comesFirst_4 rfl (lv_at hl 1 rfl) ?_
  refine lv_iload_n hx hb dX6_comesFirst_5 rfl (lv_at hl 0 rfl) ?_
  refine lv_iand hx hb dX6_comesFirst_6 ?_
  refine cv_i (show nI a &&& nI (a ^^^ b) = nI (a &&& (a ^^^ b)) from q_and a (a ^^^ b)) ?_
  refine lv_iload_n hx hb dX6_comesFirst_7 rfl (lv_at hl 0 rfl) ?_
  refine lv_ineg hx hb dX6_comesFirst_8 ?_
  refine lv_iand hx hb dX6_comesFirst_9 ?_
  refine lv_if_eq (tgt := 17) hx hb dX6_comesFirst_10 (by decide) (fun c_10 => ?_) (fun c_10 => ?_)
  · skip
    refine lv_iconst (v := nI 0) hx hb dX6_comesFirst_17 (by decide) ?_
    refine cv_i (show nI 0 = bI false from by decide) ?_
    exact x_zret X hw (⟨(by simp [cmF, c_10]), rfl⟩) dX6_comesFirst_18
  · skip
    refine lv_iconst (v := nI 1) hx hb dX6_comesFirst_13 (by decide) ?_
    refine lv_goto (tgt := 18) hx hb dX6_comesFirst_14 (by decide) ?_
    refine cv_i (show nI 1 = bI true from by decide) ?_
    exact x_zret X hw (⟨(by simp [cmF, c_10]), rfl⟩) dX6_comesFirst_18
set_option maxHeartbeats 4000000 in
set_option maxRecDepth 100000 in
theorem c_X6_findCuts (l : Launch) (D : va_G) (cI cZ : ClassId) (mx : Nat) (m1 : Nat) (m2 : Nat) (m3 : Nat) (m4 : Nat) (m5 : Nat) (m6 : Nat) (m7 : Nat) (m8 : Nat) (m9 : Nat) (m10 : Nat) (n : Nat) (nl : Nat) (ct : Nat) (oo : Nat → Nat) (ii : Nat → Nat) (hn : n ≤ 16) (hoo : ∀ k, oo k < 64) (hii : ∀ k, ii k < 64) (hn0 : 0 < n) : MV l D cI cZ yX6_findCuts wsX6_findCuts ({ frames := 1, cells := 0, slots := 0, locals := 26 }) [.ref mx] [(mx, .inr (6, [.int (nI n), .ref m1, .ref m2, .ref m3, .ref m4, .int (nI nl), .ref m5, .ref m6, .ref m7, .ref m8, .ref m9, .int (nI ct), .ref m10])), (m1, .inl (cI, 16, .inl (iA oo))), (m2, .inl (cI, 16, .inl (iA ii)))] 0 0 (fun w => ∃ c9 : Nat, (c9 = fcF oo ii n (1 <<< n - 1)) ∧ w = [(mx, .inr (6, [.int (nI n), .ref m1, .ref m2, .ref m3, .ref m4, .int (nI nl), .ref m5, .ref m6, .ref m7, .ref m8, .ref m9, .int (nI c9), .ref m10])), (m1, .inl (cI, 16, .inl (iA oo))), (m2, .inl (cI, 16, .inl (iA ii)))]) := by
  refine MV.of (cc := cX6_findCuts) (maxL := 3) (ret := none) (own := RX6) (by decide) rfl rfl (Nat.le_of_ble_eq_true rfl) ?_
  intro pQ eQ s mQ args below meth cQ A X hnm hw ls hl
  obtain ⟨⟨hx, hb, hml, hown, hts⟩, hr, hlk, hK, hN, hA⟩ := id X
  have hl : lv_has ls 3 [(0, .ref mx)] := hl
  have n6 : ∀ w ∈ wsX60, w ∈ wsX6_findCuts := by decide +kernel
  have f45 : FF args s RX6 wsX6_findCuts 45 6 0 := ⟨_, rfl, by decide, n6, hts (.fieldLink RX6 45 "AirStepsModel" "n" "I") (by decide +kernel)⟩
  have f65 : FF args s RX6 wsX6_findCuts 65 6 11 := ⟨_, rfl, by decide, n6, hts (.fieldLink RX6 65 "AirStepsModel" "cuts" "I") (by decide +kernel)⟩
  have p65 : FP args s RX6 wsX6_findCuts 65 6 11 := ⟨_, tyX6, rfl, by decide, n6, hts (.fieldLink RX6 65 "AirStepsModel" "cuts" "I") (by decide +kernel), tyX6_ok, nmX6, rfl, by decide +kernel⟩
  have hsn := shn hn
  have hsn2 := shn2 hn0
  refine lv_aload_n hx hb dX6_findCuts_0 rfl (lv_at hl 0 rfl) ?_
  refine lv_iconst (v := nI 1) hx hb dX6_findCuts_1 (by decide) ?_
  refine lv_aload_n hx hb dX6_findCuts_2 rfl (lv_at hl 0 rfl) ?_
  refine x_get X hw f45 0 rfl rfl dX6_findCuts_3 ?_
  refine lv_ishl hx hb dX6_findCuts_6 ?_
  refine cv_i (show (nI 1) <<< (nI n &&& 31) = nI (1 <<< n) from q_shl 1 n (by first | omega | assumption)) ?_
  refine lv_iconst (v := nI 1) hx hb dX6_findCuts_7 (by decide) ?_
  refine lv_isub hx hb dX6_findCuts_8 ?_
  refine cv_i (show nI (1 <<< n) - nI 1 = nI ((1 <<< n) - 1) from pk_sub (by first | omega | assumption)) ?_
  refine x_put X hw p65 0 rfl (Nat.le_of_ble_eq_true rfl) dX6_findCuts_9 (fun H locs hw => ?_)
  have hw : WD D A s.heap [(mx, .inr (6, [.int (nI n), .ref m1, .ref m2, .ref m3, .ref m4, .int (nI nl), .ref m5, .ref m6, .ref m7, .ref m8, .ref m9, .int (nI ((1 <<< n) - 1)), .ref m10])), (m1, .inl (cI, 16, .inl (iA oo))), (m2, .inl (cI, 16, .inl (iA ii)))] H locs := hw
  refine lv_iconst (v := nI 1) hx hb dX6_findCuts_12 (by decide) ?_
  refine lv_istore_n (lv' := [(1, .int (nI 1)), (0, .ref mx)]) hx hb dX6_findCuts_13 rfl hl (by decide) rfl (fun ls hl => ?_)
  refine wl (α := Nat × Nat) (nL := 3) (fun aQ => 1 <<< n - aQ.2) (fun aQ => (1 ≤ aQ.2) ∧ (aQ.2 ≤ 1 <<< n) ∧ (aQ.1 = fcF oo ii n (aQ.2 - 1))) (fun aQ => [(mx, .inr (6, [.int (nI n), .ref m1, .ref m2, .ref m3, .ref m4, .int (nI nl), .ref m5, .ref m6, .ref m7, .ref m8, .ref m9, .int (nI aQ.1), .ref m10])), (m1, .inl (cI, 16, .inl (iA oo))), (m2, .inl (cI, 16, .inl (iA ii)))]) (fun aQ => [(1, .int (nI aQ.2)), (0, .ref mx)]) ?_ ((1 <<< n) - 1, 1) ⟨(show 1 ≤ 1 from by omega), (show 1 ≤ 1 <<< n from by omega), (show ((1 <<< n) - 1) = fcF oo ii n (1 - 1) from rfl)⟩ _ _ _ hw (lv_sub hl [0, 1] rfl)
  rintro ⟨c9, q⟩ ⟨hj1, hj, ha⟩ H locs ls hw hl ih_14
  have hj1 : 1 ≤ q := hj1
  have hj : q ≤ 1 <<< n := hj
  have ha : c9 = fcF oo ii n (q - 1) := ha
  have hw : WD D A s.heap [(mx, .inr (6, [.int (nI n), .ref m1, .ref m2, .ref m3, .ref m4, .int (nI nl), .ref m5, .ref m6, .ref m7, .ref m8, .ref m9, .int (nI c9), .ref m10])), (m1, .inl (cI, 16, .inl (iA oo))), (m2, .inl (cI, 16, .inl (iA ii)))] H locs := hw
  have hl : lv_has ls 3 [(1, .int (nI q)), (0, .ref mx)] := hl
  have hcb := fcF_bd (oo := oo) (ii := ii) hn0 (q - 1) (by omega)
  rw [← ha] at hcb
  have hp1 := popc_le q
  have hp2 := popc_le c9
  refine lv_iload_n hx hb dX6_findCuts_14 rfl (lv_at hl 0 rfl) ?_
  refine lv_iconst (v := nI 1) hx hb dX6_findCuts_15 (by decide) ?_
  refine lv_aload_n hx hb dX6_findCuts_16 rfl (lv_at hl 1 rfl) ?_
  refine x_get X hw f45 0 rfl rfl dX6_findCuts_17 ?_
  refine lv_ishl hx hb dX6_findCuts_20 ?_
  refine cv_i (show (nI 1) <<< (nI n &&& 31) = nI (1 <<< n) from q_shl 1 n (by first | omega | assumption)) ?_
  refine lv_icmp_ge (tgt := 75) hx hb dX6_findCuts_21 (by decide) (fun c_21 => ?_) (fun c_21 => ?_)
  · skip
    rw [nI_leI (by omega) (by omega)] at c_21
    exact x_vret X hw (⟨c9, (by rw [ha, show q = 1 <<< n by omega]), rfl⟩) dX6_findCuts_75
  · skip
    rw [nI_leI (by omega) (by omega)] at c_21
    refine lv_iload_n hx hb dX6_findCuts_24 rfl (lv_at hl 0 rfl) ?_
    refine x_callS (As := [.int (nI q)]) (rest := []) X hw hl.1 (c_X6_ones l D cI cZ q (by first | assumption | omega)) (va_cwS 1 hts gX6_findCuts_X6_ones rfl rfl rfl (by decide +kernel) ⟨Nat.le_of_ble_eq_true rfl, Nat.le_of_ble_eq_true rfl⟩) [] rfl rfl rfl (Nat.le_of_ble_eq_true rfl) dX6_findCuts_25 (by decide) (fun r w1 H locs hp hw1 => ?_)
    obtain ⟨rfl, rfl⟩ := hp
    have hw : WD D A s.heap [(mx, .inr (6, [.int (nI n), .ref m1, .ref m2, .ref m3, .ref m4, .int (nI nl), .ref m5, .ref m6, .ref m7, .ref m8, .ref m9, .int (nI c9), .ref m10])), (m1, .inl (cI, 16, .inl (iA oo))), (m2, .inl (cI, 16, .inl (iA ii)))] H locs := hw1 rfl
    refine lv_aload_n hx hb dX6_findCuts_28 rfl (lv_at hl 1 rfl) ?_
    refine x_get X hw f65 0 rfl rfl dX6_findCuts_29 ?_
    refine x_callS (As := [.int (nI c9)]) (rest := [.int (nI (popc q))]) X hw hl.1 (c_X6_ones l D cI cZ c9 (by first | assumption | omega)) (va_cwS 1 hts gX6_findCuts_X6_ones rfl rfl rfl (by decide +kernel) ⟨Nat.le_of_ble_eq_true rfl, Nat.le_of_ble_eq_true rfl⟩) [] rfl rfl rfl (Nat.le_of_ble_eq_true rfl) dX6_findCuts_32 (by decide) (fun r w1 H locs hp hw1 => ?_)
    obtain ⟨rfl, rfl⟩ := hp
    have hw : WD D A s.heap [(mx, .inr (6, [.int (nI n), .ref m1, .ref m2, .ref m3, .ref m4, .int (nI nl), .ref m5, .ref m6, .ref m7, .ref m8, .ref m9, .int (nI c9), .ref m10])), (m1, .inl (cI, 16, .inl (iA oo))), (m2, .inl (cI, 16, .inl (iA ii)))] H locs := hw1 rfl
    refine lv_isub hx hb dX6_findCuts_35 ?_
    refine cv_i (show nI (popc q) - nI (popc c9) = (nI (popc q) - nI (popc c9)) from rfl) ?_
    refine lv_istore_n (lv' := [(2, .int (nI (popc q) - nI (popc c9))), (1, .int (nI q)), (0, .ref mx)]) hx hb dX6_findCuts_36 rfl hl (by decide) rfl (fun ls hl => ?_)
    refine lv_iload_n hx hb dX6_findCuts_37 rfl (lv_at hl 0 rfl) ?_
    refine lv_if_lt (tgt := 56) hx hb dX6_findCuts_38 (by decide) (fun c_38 => ?_) (fun c_38 => ?_)
    · skip
      rw [q_sublt (by omega) (by omega)] at c_38
      refine lv_aload_n hx hb dX6_findCuts_56 rfl (lv_at hl 2 rfl) ?_
      refine lv_iload_n hx hb dX6_findCuts_57 rfl (lv_at hl 1 rfl) ?_
      refine x_callV (As := [.int (nI q)]) (rest := []) X hw hl.1 (c_X6_mayCut l D cI cZ mx m1 m2 m3 m4 m5 m6 m7 m8 m9 m10 n nl c9 oo ii q (by first | assumption | omega) (by first | assumption | omega) (by first | assumption | omega) (by first | assumption | omega) (by omega) (by omega)) (cwV 1 hts gX6_findCuts_X6_mayCut rfl rfl rfl (by decide +kernel) ⟨Nat.le_of_ble_eq_true rfl, Nat.le_of_ble_eq_true rfl⟩) [0, 1, 2] rfl rfl 0 rfl rfl rfl rfl (Nat.le_of_ble_eq_true rfl) dX6_findCuts_58 (by decide) (fun r w1 H locs hp hw1 => ?_)
      obtain ⟨rfl, rfl⟩ := hp
      have hw : WD D A s.heap [(mx, .inr (6, [.int (nI n), .ref m1, .ref m2, .ref m3, .ref m4, .int (nI nl), .ref m5, .ref m6, .ref m7, .ref m8, .ref m9, .int (nI c9), .ref m10])), (m1, .inl (cI, 16, .inl (iA oo))), (m2, .inl (cI, 16, .inl (iA ii)))] H locs := hw1 rfl
      refine lv_if_eq (tgt := 69) hx hb dX6_findCuts_61 (by decide) (fun c_61 => ?_) (fun c_61 => ?_)
      · skip
        rw [q_b0] at c_61; try simp only [Bool.not_eq_false, Bool.not_eq_true] at c_61
        refine lv_iinc (v := nI (q + 1)) (lv' := [(1, .int (nI (q + 1))), (2, .int (nI (popc q) - nI (popc c9))), (0, .ref mx)]) hx hb dX6_findCuts_69 hl (k := 1) rfl (nI_add q 1) (by decide) rfl (fun ls hl => ?_)
        refine lv_goto (tgt := 14) hx hb dX6_findCuts_72 (by decide) ?_
        exact ih_14 (c9, q + 1) (by show 1 <<< n - (q + 1) < 1 <<< n - q; omega) ⟨(show 1 ≤ (q + 1) from by omega), (show (q + 1) ≤ 1 <<< n from by omega), (show c9 = fcF oo ii n ((q + 1) - 1) from by rw [show q + 1 - 1 = q - 1 + 1 by omega]; show _ = fcS oo ii n (q - 1) (fcF oo ii n (q - 1)); rw [← ha]; unfold fcS; rw [show q - 1 + 1 = q by omega]; first | (rw [if_pos (by simp [btr, c_38, c_61])]; done) | (rw [if_neg (by simp [btr, c_38, c_61])]; done) | (rw [if_neg (by simp [btr, c_38, c_61]; omega)]; done))⟩ _ _ _ hw (lv_sub hl [0, 2] rfl)
      · skip
        rw [q_b0] at c_61; try simp only [Bool.not_eq_false, Bool.not_eq_true] at c_61
        refine lv_aload_n hx hb dX6_findCuts_64 rfl (lv_at hl 2 rfl) ?_
        refine lv_iload_n hx hb dX6_findCuts_65 rfl (lv_at hl 1 rfl) ?_
        refine x_put X hw p65 0 rfl (Nat.le_of_ble_eq_true rfl) dX6_findCuts_66 (fun H locs hw => ?_)
        have hw : WD D A s.heap [(mx, .inr (6, [.int (nI n), .ref m1, .ref m2, .ref m3, .ref m4, .int (nI nl), .ref m5, .ref m6, .ref m7, .ref m8, .ref m9, .int (nI q), .ref m10])), (m1, .inl (cI, 16, .inl (iA oo))), (m2, .inl (cI, 16, .inl (iA ii)))] H locs := hw
        refine lv_iinc (v := nI (q + 1)) (lv' := [(1, .int (nI (q + 1))), (2, .int (nI (popc q) - nI (popc c9))), (0, .ref mx)]) hx hb dX6_findCuts_69 hl (k := 1) rfl (nI_add q 1) (by decide) rfl (fun ls hl => ?_)
        refine lv_goto (tgt := 14) hx hb dX6_findCuts_72 (by decide) ?_
        exact ih_14 (q, q + 1) (by show 1 <<< n - (q + 1) < 1 <<< n - q; omega) ⟨(show 1 ≤ (q + 1) from by omega), (show (q + 1) ≤ 1 <<< n from by omega), (show q = fcF oo ii n ((q + 1) - 1) from by rw [show q + 1 - 1 = q - 1 + 1 by omega]; show _ = fcS oo ii n (q - 1) (fcF oo ii n (q - 1)); rw [← ha]; unfold fcS; rw [show q - 1 + 1 = q by omega]; first | (rw [if_pos (by simp [btr, c_38, c_61])]; done) | (rw [if_neg (by simp [btr, c_38, c_61])]; done) | (rw [if_neg (by simp [btr, c_38, c_61]; omega)]; done))⟩ _ _ _ hw (lv_sub hl [0, 2] rfl)
    · skip
      rw [q_sublt (by omega) (by omega)] at c_38
      refine lv_iload_n hx hb dX6_findCuts_41 rfl (lv_at hl 0 rfl) ?_
      refine lv_if_ne (tgt := 69) hx hb dX6_findCuts_42 (by decide) (fun c_42 => ?_) (fun c_42 => ?_)
      · skip
        rw [q_sub0 (by omega) (by omega)] at c_42
        refine lv_iinc (v := nI (q + 1)) (lv' := [(1, .int (nI (q + 1))), (2, .int (nI (popc q) - nI (popc c9))), (0, .ref mx)]) hx hb dX6_findCuts_69 hl (k := 1) rfl (nI_add q 1) (by decide) rfl (fun ls hl => ?_)
        refine lv_goto (tgt := 14) hx hb dX6_findCuts_72 (by decide) ?_
        exact ih_14 (c9, q + 1) (by show 1 <<< n - (q + 1) < 1 <<< n - q; omega) ⟨(show 1 ≤ (q + 1) from by omega), (show (q + 1) ≤ 1 <<< n from by omega), (show c9 = fcF oo ii n ((q + 1) - 1) from by rw [show q + 1 - 1 = q - 1 + 1 by omega]; show _ = fcS oo ii n (q - 1) (fcF oo ii n (q - 1)); rw [← ha]; unfold fcS; rw [show q - 1 + 1 = q by omega]; first | (rw [if_pos (by simp [btr, c_38, c_42])]; done) | (rw [if_neg (by simp [btr, c_38, c_42])]; done) | (rw [if_neg (by simp [btr, c_38, c_42]; omega)]; done))⟩ _ _ _ hw (lv_sub hl [0, 2] rfl)
      · skip
        rw [q_sub0 (by omega) (by omega)] at c_42
        refine lv_iload_n hx hb dX6_findCuts_45 rfl (lv_at hl 1 rfl) ?_
        refine lv_aload_n hx hb dX6_findCuts_46 rfl (lv_at hl 2 rfl) ?_
        refine x_get X hw f65 0 rfl rfl dX6_findCuts_47 ?_
        refine x_callS (As := [.int (nI q), .int (nI c9)]) (rest := []) X hw hl.1 (c_X6_comesFirst l D cI cZ q c9 ) (va_cwS 2 hts gX6_findCuts_X6_comesFirst rfl rfl rfl (by decide +kernel) ⟨Nat.le_of_ble_eq_true rfl, Nat.le_of_ble_eq_true rfl⟩) [] rfl rfl rfl (Nat.le_of_ble_eq_true rfl) dX6_findCuts_50 (by decide) (fun r w1 H locs hp hw1 => ?_)
        obtain ⟨rfl, rfl⟩ := hp
        have hw : WD D A s.heap [(mx, .inr (6, [.int (nI n), .ref m1, .ref m2, .ref m3, .ref m4, .int (nI nl), .ref m5, .ref m6, .ref m7, .ref m8, .ref m9, .int (nI c9), .ref m10])), (m1, .inl (cI, 16, .inl (iA oo))), (m2, .inl (cI, 16, .inl (iA ii)))] H locs := hw1 rfl
        refine lv_if_eq (tgt := 69) hx hb dX6_findCuts_53 (by decide) (fun c_53 => ?_) (fun c_53 => ?_)
        · skip
          rw [q_b0] at c_53; try simp only [Bool.not_eq_false, Bool.not_eq_true] at c_53
          refine lv_iinc (v := nI (q + 1)) (lv' := [(1, .int (nI (q + 1))), (2, .int (nI (popc q) - nI (popc c9))), (0, .ref mx)]) hx hb dX6_findCuts_69 hl (k := 1) rfl (nI_add q 1) (by decide) rfl (fun ls hl => ?_)
          refine lv_goto (tgt := 14) hx hb dX6_findCuts_72 (by decide) ?_
          exact ih_14 (c9, q + 1) (by show 1 <<< n - (q + 1) < 1 <<< n - q; omega) ⟨(show 1 ≤ (q + 1) from by omega), (show (q + 1) ≤ 1 <<< n from by omega), (show c9 = fcF oo ii n ((q + 1) - 1) from by rw [show q + 1 - 1 = q - 1 + 1 by omega]; show _ = fcS oo ii n (q - 1) (fcF oo ii n (q - 1)); rw [← ha]; unfold fcS; rw [show q - 1 + 1 = q by omega]; first | (rw [if_pos (by simp [btr, c_38, c_42, c_53])]; done) | (rw [if_neg (by simp [btr, c_38, c_42, c_53])]; done) | (rw [if_neg (by simp [btr, c_38, c_42, c_53]; omega)]; done))⟩ _ _ _ hw (lv_sub hl [0, 2] rfl)
        · skip
          rw [q_b0] at c_53; try simp only [Bool.not_eq_false, Bool.not_eq_true] at c_53
          refine lv_aload_n hx hb dX6_findCuts_56 rfl (lv_at hl 2 rfl) ?_
          refine lv_iload_n hx hb dX6_findCuts_57 rfl (lv_at hl 1 rfl) ?_
          refine x_callV (As := [.int (nI q)]) (rest := []) X hw hl.1 (c_X6_mayCut l D cI cZ mx m1 m2 m3 m4 m5 m6 m7 m8 m9 m10 n nl c9 oo ii q (by first | assumption | omega) (by first | assumption | omega) (by first | assumption | omega) (by first | assumption | omega) (by omega) (by omega)) (cwV 1 hts gX6_findCuts_X6_mayCut rfl rfl rfl (by decide +kernel) ⟨Nat.le_of_ble_eq_true rfl, Nat.le_of_ble_eq_true rfl⟩) [0, 1, 2] rfl rfl 0 rfl rfl rfl rfl (Nat.le_of_ble_eq_true rfl) dX6_findCuts_58 (by decide) (fun r w1 H locs hp hw1 => ?_)
          obtain ⟨rfl, rfl⟩ := hp
          have hw : WD D A s.heap [(mx, .inr (6, [.int (nI n), .ref m1, .ref m2, .ref m3, .ref m4, .int (nI nl), .ref m5, .ref m6, .ref m7, .ref m8, .ref m9, .int (nI c9), .ref m10])), (m1, .inl (cI, 16, .inl (iA oo))), (m2, .inl (cI, 16, .inl (iA ii)))] H locs := hw1 rfl
          refine lv_if_eq (tgt := 69) hx hb dX6_findCuts_61 (by decide) (fun c_61 => ?_) (fun c_61 => ?_)
          · skip
            rw [q_b0] at c_61; try simp only [Bool.not_eq_false, Bool.not_eq_true] at c_61
            refine lv_iinc (v := nI (q + 1)) (lv' := [(1, .int (nI (q + 1))), (2, .int (nI (popc q) - nI (popc c9))), (0, .ref mx)]) hx hb dX6_findCuts_69 hl (k := 1) rfl (nI_add q 1) (by decide) rfl (fun ls hl => ?_)
            refine lv_goto (tgt := 14) hx hb dX6_findCuts_72 (by decide) ?_
            exact ih_14 (c9, q + 1) (by show 1 <<< n - (q + 1) < 1 <<< n - q; omega) ⟨(show 1 ≤ (q + 1) from by omega), (show (q + 1) ≤ 1 <<< n from by omega), (show c9 = fcF oo ii n ((q + 1) - 1) from by rw [show q + 1 - 1 = q - 1 + 1 by omega]; show _ = fcS oo ii n (q - 1) (fcF oo ii n (q - 1)); rw [← ha]; unfold fcS; rw [show q - 1 + 1 = q by omega]; first | (rw [if_pos (by simp [btr, c_38, c_42, c_53, c_61])]; done) | (rw [if_neg (by simp [btr, c_38, c_42, c_53, c_61])]; done) | (rw [if_neg (by simp [btr, c_38, c_42, c_53, c_61]; omega)]; done))⟩ _ _ _ hw (lv_sub hl [0, 2] rfl)
          · skip
            rw [q_b0] at c_61; try simp only [Bool.not_eq_false, Bool.not_eq_true] at c_61
            refine lv_aload_n hx hb dX6_findCuts_64 rfl (lv_at hl 2 rfl) ?_
            refine lv_iload_n hx hb dX6_findCuts_65 rfl (lv_at hl 1 rfl) ?_
            refine x_put X hw p65 0 rfl (Nat.le_of_ble_eq_true rfl) dX6_findCuts_66 (fun H locs hw => ?_)
            have hw : WD D A s.heap [(mx, .inr (6, [.int (nI n), .ref m1, .ref m2, .ref m3, .ref m4, .int (nI nl), .ref m5, .ref m6, .ref m7, .ref m8, .ref m9, .int (nI q), .ref m10])), (m1, .inl (cI, 16, .inl (iA oo))), (m2, .inl (cI, 16, .inl (iA ii)))] H locs := hw
            refine lv_iinc (v := nI (q + 1)) (lv' := [(1, .int (nI (q + 1))), (2, .int (nI (popc q) - nI (popc c9))), (0, .ref mx)]) hx hb dX6_findCuts_69 hl (k := 1) rfl (nI_add q 1) (by decide) rfl (fun ls hl => ?_)
            refine lv_goto (tgt := 14) hx hb dX6_findCuts_72 (by decide) ?_
            exact ih_14 (q, q + 1) (by show 1 <<< n - (q + 1) < 1 <<< n - q; omega) ⟨(show 1 ≤ (q + 1) from by omega), (show (q + 1) ≤ 1 <<< n from by omega), (show q = fcF oo ii n ((q + 1) - 1) from by rw [show q + 1 - 1 = q - 1 + 1 by omega]; show _ = fcS oo ii n (q - 1) (fcF oo ii n (q - 1)); rw [← ha]; unfold fcS; rw [show q - 1 + 1 = q by omega]; first | (rw [if_pos (by simp [btr, c_38, c_42, c_53, c_61])]; done) | (rw [if_neg (by simp [btr, c_38, c_42, c_53, c_61])]; done) | (rw [if_neg (by simp [btr, c_38, c_42, c_53, c_61]; omega)]; done))⟩ _ _ _ hw (lv_sub hl [0, 2] rfl)
set_option maxHeartbeats 4000000 in
set_option maxRecDepth 100000 in
theorem c_X6_beginOf (l : Launch) (D : va_G) (cI cZ : ClassId) (mx : Nat) (m1 : Nat) (m2 : Nat) (m3 : Nat) (m4 : Nat) (m5 : Nat) (m6 : Nat) (m7 : Nat) (m8 : Nat) (m9 : Nat) (m10 : Nat) (n : Nat) (nl : Nat) (ct : Nat) (k : Nat) (hn : n ≤ 16) (hk : k < n) (hc0 : 0 < ct) (hc1 : ct < 1 <<< n) : MI l D cI cZ yX6_beginOf wsX6_beginOf ({ frames := 1, cells := 0, slots := 0, locals := 21 }) [.ref mx, .int (nI k)] [(mx, .inr (6, [.int (nI n), .ref m1, .ref m2, .ref m3, .ref m4, .int (nI nl), .ref m5, .ref m6, .ref m7, .ref m8, .ref m9, .int (nI ct), .ref m10]))] (fun r w => r = (nI (bgR ct n k)) ∧ w = [(mx, .inr (6, [.int (nI n), .ref m1, .ref m2, .ref m3, .ref m4, .int (nI nl), .ref m5, .ref m6, .ref m7, .ref m8, .ref m9, .int (nI ct), .ref m10]))]) := by
  refine MI.of (cc := cX6_beginOf) (maxL := 3) (ret := (some .int)) (own := RX6) (by decide) rfl rfl (Nat.le_of_ble_eq_true rfl) ?_
  intro pQ eQ s mQ args below meth cQ A X hw ls hl
  obtain ⟨⟨hx, hb, hml, hown, hts⟩, hr, hlk, hK, hN, hA⟩ := id X
  have hl : lv_has ls 3 [(0, .ref mx), (1, .int (nI k))] := hl
  have n6 : ∀ w ∈ wsX60, w ∈ wsX6_beginOf := by decide +kernel
  have f65 : FF args s RX6 wsX6_beginOf 65 6 11 := ⟨_, rfl, by decide, n6, hts (.fieldLink RX6 65 "AirStepsModel" "cuts" "I") (by decide +kernel)⟩
  have hsn := shn hn
  have hlo := lob_lt (set := ct) (by omega) (by omega)
  have hlb := lob_bit hlo
  have hln : lob ct < n := lob_n hc1 hlb
  refine lv_iload_n hx hb dX6_beginOf_0 rfl (lv_at hl 1 rfl) ?_
  refine lv_istore_n (lv' := [(2, .int (nI k)), (0, .ref mx), (1, .int (nI k))]) hx hb dX6_beginOf_1 rfl hl (by decide) rfl (fun ls hl => ?_)
  refine wl (α := Nat × Nat) (nL := 3) (fun aQ => bgM (lob ct) n aQ.2) (fun aQ => (aQ.2 < n) ∧ (bgR ct n k = bgF ct n aQ.1 aQ.2) ∧ (bgM (lob ct) n aQ.2 ≤ aQ.1)) (fun aQ => [(mx, .inr (6, [.int (nI n), .ref m1, .ref m2, .ref m3, .ref m4, .int (nI nl), .ref m5, .ref m6, .ref m7, .ref m8, .ref m9, .int (nI ct), .ref m10]))]) (fun aQ => [(2, .int (nI aQ.2)), (0, .ref mx), (1, .int (nI k))]) ?_ (16, k) ⟨(show k < n from by omega), (show bgR ct n k = bgF ct n 16 k from rfl), (show bgM (lob ct) n k ≤ 16 from by unfold bgM; split <;> omega)⟩ _ _ _ hw (lv_sub hl [0, 1, 2] rfl)
  rintro ⟨f, a⟩ ⟨ha, hR, hf⟩ H locs ls hw hl ih_2
  have ha : a < n := ha
  have hR : bgR ct n k = bgF ct n f a := hR
  have hf : bgM (lob ct) n a ≤ f := hf
  have hw : WD D A s.heap [(mx, .inr (6, [.int (nI n), .ref m1, .ref m2, .ref m3, .ref m4, .int (nI nl), .ref m5, .ref m6, .ref m7, .ref m8, .ref m9, .int (nI ct), .ref m10]))] H locs := hw
  have hl : lv_has ls 3 [(2, .int (nI a)), (0, .ref mx), (1, .int (nI k))] := hl
  have hstep : ct.testBit a = false → bgM (lob ct) n (pr n a) < bgM (lob ct) n a := fun h => bgM_s hln ha (fun e => by rw [e, hlb] at h; cases h)
  refine lv_aload_n hx hb dX6_beginOf_2 rfl (lv_at hl 1 rfl) ?_
  refine x_get X hw f65 0 rfl rfl dX6_beginOf_3 ?_
  refine lv_iload_n hx hb dX6_beginOf_6 rfl (lv_at hl 0 rfl) ?_
  refine lv_ishr hx hb dX6_beginOf_7 ?_
  refine cv_i (show (nI ct) >>> (nI a &&& 31) = nI (ct >>> a) from q_shr ct a (by first | omega | assumption) (by first | omega | assumption)) ?_
  refine lv_iconst (v := nI 1) hx hb dX6_beginOf_8 (by decide) ?_
  refine lv_iand hx hb dX6_beginOf_9 ?_
  refine cv_i (show nI (ct >>> a) &&& nI 1 = bI (ct.testBit a) from q_bit ct a) ?_
  refine lv_if_ne (tgt := 22) hx hb dX6_beginOf_10 (by decide) (fun c_10 => ?_) (fun c_10 => ?_)
  · skip
    rw [q_b0] at c_10; try simp only [Bool.not_eq_false] at c_10
    refine lv_iload_n hx hb dX6_beginOf_22 rfl (lv_at hl 0 rfl) ?_
    exact x_iret X hw (⟨(congrArg nI (by rw [hR, bgF_hit c_10])), rfl⟩) dX6_beginOf_23
  · skip
    rw [q_b0] at c_10; try simp only [Bool.not_eq_false] at c_10
    refine lv_aload_n hx hb dX6_beginOf_13 rfl (lv_at hl 1 rfl) ?_
    refine lv_iload_n hx hb dX6_beginOf_14 rfl (lv_at hl 0 rfl) ?_
    refine x_callV (As := [.int (nI a)]) (rest := []) X hw hl.1 (c_X6_ahead l D cI cZ mx m1 m2 m3 m4 m5 m6 m7 m8 m9 m10 n nl ct a (by first | assumption | omega) (by first | assumption | omega)) (cwV 1 hts gX6_beginOf_X6_ahead rfl rfl rfl (by decide +kernel) ⟨Nat.le_of_ble_eq_true rfl, Nat.le_of_ble_eq_true rfl⟩) [0] rfl rfl 0 rfl rfl rfl rfl (Nat.le_of_ble_eq_true rfl) dX6_beginOf_15 (by decide) (fun r w1 H locs hp hw1 => ?_)
    obtain ⟨rfl, rfl⟩ := hp
    have hw : WD D A s.heap [(mx, .inr (6, [.int (nI n), .ref m1, .ref m2, .ref m3, .ref m4, .int (nI nl), .ref m5, .ref m6, .ref m7, .ref m8, .ref m9, .int (nI ct), .ref m10]))] H locs := hw1 rfl
    refine lv_istore_n (lv' := [(2, .int (nI (pr n a))), (0, .ref mx), (1, .int (nI k))]) hx hb dX6_beginOf_18 rfl hl (by decide) rfl (fun ls hl => ?_)
    refine lv_goto (tgt := 2) hx hb dX6_beginOf_19 (by decide) ?_
    exact ih_2 (f - 1, pr n a) (by show bgM (lob ct) n (pr n a) < bgM (lob ct) n a; exact hstep c_10) ⟨(show (pr n a) < n from pr_lt ha), (show bgR ct n k = bgF ct n (f - 1) (pr n a) from by rw [hR, show f = f - 1 + 1 by have := hstep c_10; omega]; show (if ct.testBit a then a else bgF ct n (f - 1) (pr n a)) = _; rw [c_10]; rfl), (show bgM (lob ct) n (pr n a) ≤ (f - 1) from by have := hstep c_10; omega)⟩ _ _ _ hw (lv_sub hl [0, 1, 2] rfl)
set_option maxHeartbeats 4000000 in
set_option maxRecDepth 100000 in
theorem c_X6_isPushed (l : Launch) (D : va_G) (cI cZ : ClassId) (mx : Nat) (m1 : Nat) (m2 : Nat) (m3 : Nat) (m4 : Nat) (m5 : Nat) (m6 : Nat) (m7 : Nat) (m8 : Nat) (m9 : Nat) (m10 : Nat) (n : Nat) (nl : Nat) (ct : Nat) (oo : Nat → Nat) (ii : Nat → Nat) (ss : Nat → Nat) (j : Nat) (k : Nat) (wy : Nat) (hn : n ≤ 16) (hoo : ∀ k, oo k < 64) (hii : ∀ k, ii k < 64) (hss : ∀ k, ss k < 64) (hc0 : 0 < ct) (hc1 : ct < 1 <<< n) (hj : j < n) (hk : k < n) (hwy : wy < 2) : MI l D cI cZ yX6_isPushed wsX6_isPushed ({ frames := 2, cells := 0, slots := 0, locals := 44 }) [.ref mx, .int (nI j), .int (nI k), .int (nI wy)] [(mx, .inr (6, [.int (nI n), .ref m1, .ref m2, .ref m3, .ref m4, .int (nI nl), .ref m5, .ref m6, .ref m7, .ref m8, .ref m9, .int (nI ct), .ref m10])), (m1, .inl (cI, 16, .inl (iA oo))), (m2, .inl (cI, 16, .inl (iA ii))), (m9, .inl (cI, 17, .inl (iA ss)))] (fun r w => r = (bI (psR oo ii ss n ct wy j k)) ∧ w = [(mx, .inr (6, [.int (nI n), .ref m1, .ref m2, .ref m3, .ref m4, .int (nI nl), .ref m5, .ref m6, .ref m7, .ref m8, .ref m9, .int (nI ct), .ref m10])), (m1, .inl (cI, 16, .inl (iA oo))), (m2, .inl (cI, 16, .inl (iA ii))), (m9, .inl (cI, 17, .inl (iA ss)))]) := by
  refine MI.of (cc := cX6_isPushed) (maxL := 5) (ret := (some .boolean)) (own := RX6) (by decide) rfl rfl (Nat.le_of_ble_eq_true rfl) ?_
  intro pQ eQ s mQ args below meth cQ A X hw ls hl
  obtain ⟨⟨hx, hb, hml, hown, hts⟩, hr, hlk, hK, hN, hA⟩ := id X
  have hl : lv_has ls 5 [(0, .ref mx), (1, .int (nI j)), (2, .int (nI k)), (3, .int (nI wy))] := hl
  have n6 : ∀ w ∈ wsX60, w ∈ wsX6_isPushed := by decide +kernel
  have f35 : FF args s RX6 wsX6_isPushed 35 6 10 := ⟨_, rfl, by decide, n6, hts (.fieldLink RX6 35 "AirStepsModel" "states" "[I") (by decide +kernel)⟩
  refine lv_aload_n hx hb dX6_isPushed_0 rfl (lv_at hl 0 rfl) ?_
  refine lv_iload_n hx hb dX6_isPushed_1 rfl (lv_at hl 1 rfl) ?_
  refine lv_aload_n hx hb dX6_isPushed_2 rfl (lv_at hl 0 rfl) ?_
  refine x_get X hw f35 0 rfl rfl dX6_isPushed_3 ?_
  refine lv_iload_n hx hb dX6_isPushed_6 rfl (lv_at hl 2 rfl) ?_
  refine x_aldN X hw 3 rfl (by omega) (by omega) dX6_isPushed_7 ?_
  have hb_7 := hss k
  refine x_callV (As := [.int (nI j), .int (nI (ss k))]) (rest := []) X hw hl.1 (c_X6_isOn l D cI cZ mx m1 m2 m3 m4 m5 m6 m7 m8 m9 m10 n nl ct oo ii j (ss k) (by first | assumption | omega) (by first | assumption | omega) (by first | assumption | omega) (by first | assumption | omega)) (cwV 2 hts gX6_isPushed_X6_isOn rfl rfl rfl (by decide +kernel) ⟨Nat.le_of_ble_eq_true rfl, Nat.le_of_ble_eq_true rfl⟩) [0, 1, 2] rfl rfl 0 rfl rfl rfl rfl (Nat.le_of_ble_eq_true rfl) dX6_isPushed_8 (by decide) (fun r w1 H locs hp hw1 => ?_)
  obtain ⟨rfl, rfl⟩ := hp
  have hw : WD D A s.heap [(mx, .inr (6, [.int (nI n), .ref m1, .ref m2, .ref m3, .ref m4, .int (nI nl), .ref m5, .ref m6, .ref m7, .ref m8, .ref m9, .int (nI ct), .ref m10])), (m1, .inl (cI, 16, .inl (iA oo))), (m2, .inl (cI, 16, .inl (iA ii))), (m9, .inl (cI, 17, .inl (iA ss)))] H locs := hw1 rfl
  refine lv_istore (lv' := [(4, .int (bI (onR oo ii n j (ss k)))), (0, .ref mx), (1, .int (nI j)), (2, .int (nI k)), (3, .int (nI wy))]) hx hb dX6_isPushed_11 hl (by decide) rfl (fun ls hl => ?_)
  refine lv_iload_n hx hb dX6_isPushed_13 rfl (lv_at hl 4 rfl) ?_
  refine lv_if_ne (tgt := 20) hx hb dX6_isPushed_14 (by decide) (fun c_14 => ?_) (fun c_14 => ?_)
  · skip
    rw [q_eq0 (by omega)] at c_14
    refine lv_aload_n hx hb dX6_isPushed_20 rfl (lv_at hl 1 rfl) ?_
    refine lv_iload_n hx hb dX6_isPushed_21 rfl (lv_at hl 2 rfl) ?_
    refine x_callV (As := [.int (nI j)]) (rest := []) X hw hl.1 (c_X6_beginOf l D cI cZ mx m1 m2 m3 m4 m5 m6 m7 m8 m9 m10 n nl ct j (by first | assumption | omega) (by first | assumption | omega) (by first | assumption | omega) (by first | assumption | omega)) (cwV 1 hts gX6_isPushed_X6_beginOf rfl rfl rfl (by decide +kernel) ⟨Nat.le_of_ble_eq_true rfl, Nat.le_of_ble_eq_true rfl⟩) [0] rfl rfl 0 rfl rfl rfl rfl (Nat.le_of_ble_eq_true rfl) dX6_isPushed_22 (by decide) (fun r w1 H locs hp hw1 => ?_)
    obtain ⟨rfl, rfl⟩ := hp
    have hw : WD D A s.heap [(mx, .inr (6, [.int (nI n), .ref m1, .ref m2, .ref m3, .ref m4, .int (nI nl), .ref m5, .ref m6, .ref m7, .ref m8, .ref m9, .int (nI ct), .ref m10])), (m1, .inl (cI, 16, .inl (iA oo))), (m2, .inl (cI, 16, .inl (iA ii))), (m9, .inl (cI, 17, .inl (iA ss)))] H locs := hw1 rfl
    have hg1 : bgR ct n j < n := bgF_lt 16 j hj
    refine lv_aload_n hx hb dX6_isPushed_25 rfl (lv_at hl 1 rfl) ?_
    refine lv_iload_n hx hb dX6_isPushed_26 rfl (lv_at hl 3 rfl) ?_
    refine x_callV (As := [.int (nI k)]) (rest := [.int (nI (bgR ct n j))]) X hw hl.1 (c_X6_beginOf l D cI cZ mx m1 m2 m3 m4 m5 m6 m7 m8 m9 m10 n nl ct k (by first | assumption | omega) (by first | assumption | omega) (by first | assumption | omega) (by first | assumption | omega)) (cwV 1 hts gX6_isPushed_X6_beginOf rfl rfl rfl (by decide +kernel) ⟨Nat.le_of_ble_eq_true rfl, Nat.le_of_ble_eq_true rfl⟩) [0] rfl rfl 0 rfl rfl rfl rfl (Nat.le_of_ble_eq_true rfl) dX6_isPushed_27 (by decide) (fun r w1 H locs hp hw1 => ?_)
    obtain ⟨rfl, rfl⟩ := hp
    have hw : WD D A s.heap [(mx, .inr (6, [.int (nI n), .ref m1, .ref m2, .ref m3, .ref m4, .int (nI nl), .ref m5, .ref m6, .ref m7, .ref m8, .ref m9, .int (nI ct), .ref m10])), (m1, .inl (cI, 16, .inl (iA oo))), (m2, .inl (cI, 16, .inl (iA ii))), (m9, .inl (cI, 17, .inl (iA ss)))] H locs := hw1 rfl
    have hg2 : bgR ct n k < n := bgF_lt 16 k hk
    refine lv_icmp_ne (tgt := 51) hx hb dX6_isPushed_30 (by decide) (fun c_30 => ?_) (fun c_30 => ?_)
    · skip
      rw [nI_eq (by omega) (by omega)] at c_30
      refine lv_iconst (v := nI 0) hx hb dX6_isPushed_51 (by decide) ?_
      refine cv_i (show nI 0 = bI false from by decide) ?_
      exact x_zret X hw (⟨(congrArg bI (by unfold psR; rw [if_neg c_14]; first | (rw [decide_eq_false c_30]; rfl) | (rw [decide_eq_true c_30, decide_eq_true c_39]; rfl) | (rw [decide_eq_true c_30, decide_eq_false c_39, c_44]; rfl))), rfl⟩) dX6_isPushed_52
    · skip
      rw [nI_eq (by omega) (by omega)] at c_30
      refine lv_aload_n hx hb dX6_isPushed_33 rfl (lv_at hl 1 rfl) ?_
      refine lv_iload_n hx hb dX6_isPushed_34 rfl (lv_at hl 2 rfl) ?_
      refine x_callV (As := [.int (nI j)]) (rest := []) X hw hl.1 (c_X6_beginOf l D cI cZ mx m1 m2 m3 m4 m5 m6 m7 m8 m9 m10 n nl ct j (by first | assumption | omega) (by first | assumption | omega) (by first | assumption | omega) (by first | assumption | omega)) (cwV 1 hts gX6_isPushed_X6_beginOf rfl rfl rfl (by decide +kernel) ⟨Nat.le_of_ble_eq_true rfl, Nat.le_of_ble_eq_true rfl⟩) [0] rfl rfl 0 rfl rfl rfl rfl (Nat.le_of_ble_eq_true rfl) dX6_isPushed_35 (by decide) (fun r w1 H locs hp hw1 => ?_)
      obtain ⟨rfl, rfl⟩ := hp
      have hw : WD D A s.heap [(mx, .inr (6, [.int (nI n), .ref m1, .ref m2, .ref m3, .ref m4, .int (nI nl), .ref m5, .ref m6, .ref m7, .ref m8, .ref m9, .int (nI ct), .ref m10])), (m1, .inl (cI, 16, .inl (iA oo))), (m2, .inl (cI, 16, .inl (iA ii))), (m9, .inl (cI, 17, .inl (iA ss)))] H locs := hw1 rfl
      refine lv_iload_n hx hb dX6_isPushed_38 rfl (lv_at hl 2 rfl) ?_
      refine lv_icmp_eq (tgt := 47) hx hb dX6_isPushed_39 (by decide) (fun c_39 => ?_) (fun c_39 => ?_)
      · skip
        rw [nI_eq (by omega) (by omega)] at c_39
        refine lv_iconst (v := nI 1) hx hb dX6_isPushed_47 (by decide) ?_
        refine lv_goto (tgt := 52) hx hb dX6_isPushed_48 (by decide) ?_
        refine cv_i (show nI 1 = bI true from by decide) ?_
        exact x_zret X hw (⟨(congrArg bI (by unfold psR; rw [if_neg c_14]; first | (rw [decide_eq_false c_30]; rfl) | (rw [decide_eq_true c_30, decide_eq_true c_39]; rfl) | (rw [decide_eq_true c_30, decide_eq_false c_39, c_44]; rfl))), rfl⟩) dX6_isPushed_52
      · skip
        rw [nI_eq (by omega) (by omega)] at c_39
        refine lv_iload hx hb dX6_isPushed_42 (lv_at hl 0 rfl) ?_
        refine lv_if_eq (tgt := 51) hx hb dX6_isPushed_44 (by decide) (fun c_44 => ?_) (fun c_44 => ?_)
        · skip
          rw [q_b0] at c_44; try simp only [Bool.not_eq_false, Bool.not_eq_true] at c_44
          refine lv_iconst (v := nI 0) hx hb dX6_isPushed_51 (by decide) ?_
          refine cv_i (show nI 0 = bI false from by decide) ?_
          exact x_zret X hw (⟨(congrArg bI (by unfold psR; rw [if_neg c_14]; first | (rw [decide_eq_false c_30]; rfl) | (rw [decide_eq_true c_30, decide_eq_true c_39]; rfl) | (rw [decide_eq_true c_30, decide_eq_false c_39, c_44]; rfl))), rfl⟩) dX6_isPushed_52
        · skip
          rw [q_b0] at c_44; try simp only [Bool.not_eq_false, Bool.not_eq_true] at c_44
          refine lv_iconst (v := nI 1) hx hb dX6_isPushed_47 (by decide) ?_
          refine lv_goto (tgt := 52) hx hb dX6_isPushed_48 (by decide) ?_
          refine cv_i (show nI 1 = bI true from by decide) ?_
          exact x_zret X hw (⟨(congrArg bI (by unfold psR; rw [if_neg c_14]; first | (rw [decide_eq_false c_30]; rfl) | (rw [decide_eq_true c_30, decide_eq_true c_39]; rfl) | (rw [decide_eq_true c_30, decide_eq_false c_39, c_44]; rfl))), rfl⟩) dX6_isPushed_52
  · skip
    rw [q_eq0 (by omega)] at c_14
    refine lv_iload hx hb dX6_isPushed_17 (lv_at hl 0 rfl) ?_
    exact x_zret X hw (⟨(by unfold psR; rw [if_pos c_14]), rfl⟩) dX6_isPushed_19
set_option maxHeartbeats 4000000 in
set_option maxRecDepth 100000 in
theorem c_X6_clashAt (l : Launch) (D : va_G) (cI cZ : ClassId) (mx : Nat) (m1 : Nat) (m2 : Nat) (m3 : Nat) (m4 : Nat) (m5 : Nat) (m6 : Nat) (m7 : Nat) (m8 : Nat) (m9 : Nat) (m10 : Nat) (n : Nat) (nl : Nat) (ct : Nat) (oo : Nat → Nat) (ii : Nat → Nat) (ss : Nat → Nat) (k : Nat) (wy : Nat) (hn : n ≤ 16) (hoo : ∀ k, oo k < 64) (hii : ∀ k, ii k < 64) (hss : ∀ k, ss k < 64) (hc0 : 0 < ct) (hc1 : ct < 1 <<< n) (hk : k < n) (hwy : wy < 2) : MI l D cI cZ yX6_clashAt wsX6_clashAt ({ frames := 3, cells := 0, slots := 0, locals := 68 }) [.ref mx, .int (nI k), .int (nI wy)] [(mx, .inr (6, [.int (nI n), .ref m1, .ref m2, .ref m3, .ref m4, .int (nI nl), .ref m5, .ref m6, .ref m7, .ref m8, .ref m9, .int (nI ct), .ref m10])), (m1, .inl (cI, 16, .inl (iA oo))), (m2, .inl (cI, 16, .inl (iA ii))), (m9, .inl (cI, 17, .inl (iA ss)))] (fun r w => r = (nI (clR oo ii ss n ct wy k n)) ∧ w = [(mx, .inr (6, [.int (nI n), .ref m1, .ref m2, .ref m3, .ref m4, .int (nI nl), .ref m5, .ref m6, .ref m7, .ref m8, .ref m9, .int (nI ct), .ref m10])), (m1, .inl (cI, 16, .inl (iA oo))), (m2, .inl (cI, 16, .inl (iA ii))), (m9, .inl (cI, 17, .inl (iA ss)))]) := by
  refine MI.of (cc := cX6_clashAt) (maxL := 5) (ret := (some .int)) (own := RX6) (by decide) rfl rfl (Nat.le_of_ble_eq_true rfl) ?_
  intro pQ eQ s mQ args below meth cQ A X hw ls hl
  obtain ⟨⟨hx, hb, hml, hown, hts⟩, hr, hlk, hK, hN, hA⟩ := id X
  have hl : lv_has ls 5 [(0, .ref mx), (1, .int (nI k)), (2, .int (nI wy))] := hl
  have n6 : ∀ w ∈ wsX60, w ∈ wsX6_clashAt := by decide +kernel
  have f7 : FF args s RX6 wsX6_clashAt 7 6 1 := ⟨_, rfl, by decide, n6, hts (.fieldLink RX6 7 "AirStepsModel" "outs" "[I") (by decide +kernel)⟩
  have f13 : FF args s RX6 wsX6_clashAt 13 6 2 := ⟨_, rfl, by decide, n6, hts (.fieldLink RX6 13 "AirStepsModel" "ins" "[I") (by decide +kernel)⟩
  have f45 : FF args s RX6 wsX6_clashAt 45 6 0 := ⟨_, rfl, by decide, n6, hts (.fieldLink RX6 45 "AirStepsModel" "n" "I") (by decide +kernel)⟩
  refine lv_iconst (v := nI 0) hx hb dX6_clashAt_0 (by decide) ?_
  refine lv_istore_n (lv' := [(3, .int (nI 0)), (0, .ref mx), (1, .int (nI k)), (2, .int (nI wy))]) hx hb dX6_clashAt_1 rfl hl (by decide) rfl (fun ls hl => ?_)
  refine lv_iconst (v := nI 0) hx hb dX6_clashAt_2 (by decide) ?_
  refine lv_istore (lv' := [(4, .int (nI 0)), (3, .int (nI 0)), (0, .ref mx), (1, .int (nI k)), (2, .int (nI wy))]) hx hb dX6_clashAt_3 hl (by decide) rfl (fun ls hl => ?_)
  refine wl (α := Nat × Nat) (nL := 5) (fun aQ => n - aQ.2) (fun aQ => (aQ.2 ≤ n) ∧ (aQ.1 = clR oo ii ss n ct wy k aQ.2)) (fun aQ => [(mx, .inr (6, [.int (nI n), .ref m1, .ref m2, .ref m3, .ref m4, .int (nI nl), .ref m5, .ref m6, .ref m7, .ref m8, .ref m9, .int (nI ct), .ref m10])), (m1, .inl (cI, 16, .inl (iA oo))), (m2, .inl (cI, 16, .inl (iA ii))), (m9, .inl (cI, 17, .inl (iA ss)))]) (fun aQ => [(4, .int (nI aQ.2)), (3, .int (nI aQ.1)), (0, .ref mx), (1, .int (nI k)), (2, .int (nI wy))]) ?_ (0, 0) ⟨(show 0 ≤ n from by omega), (show 0 = clR oo ii ss n ct wy k 0 from rfl)⟩ _ _ _ hw (lv_sub hl [0, 1, 2, 3, 4] rfl)
  rintro ⟨a, i⟩ ⟨hi, ha⟩ H locs ls hw hl ih_5
  have hi : i ≤ n := hi
  have ha : a = clR oo ii ss n ct wy k i := ha
  have hw : WD D A s.heap [(mx, .inr (6, [.int (nI n), .ref m1, .ref m2, .ref m3, .ref m4, .int (nI nl), .ref m5, .ref m6, .ref m7, .ref m8, .ref m9, .int (nI ct), .ref m10])), (m1, .inl (cI, 16, .inl (iA oo))), (m2, .inl (cI, 16, .inl (iA ii))), (m9, .inl (cI, 17, .inl (iA ss)))] H locs := hw
  have hl : lv_has ls 5 [(4, .int (nI i)), (3, .int (nI a)), (0, .ref mx), (1, .int (nI k)), (2, .int (nI wy))] := hl
  refine lv_iload hx hb dX6_clashAt_5 (lv_at hl 0 rfl) ?_
  refine lv_aload_n hx hb dX6_clashAt_7 rfl (lv_at hl 2 rfl) ?_
  refine x_get X hw f45 0 rfl rfl dX6_clashAt_8 ?_
  refine lv_icmp_ge (tgt := 63) hx hb dX6_clashAt_11 (by decide) (fun c_11 => ?_) (fun c_11 => ?_)
  · skip
    rw [nI_leI (by omega) (by omega)] at c_11
    refine lv_iload_n hx hb dX6_clashAt_63 rfl (lv_at hl 1 rfl) ?_
    exact x_iret X hw (⟨(by rw [ha, show i = n by omega]), rfl⟩) dX6_clashAt_64
  · skip
    rw [nI_leI (by omega) (by omega)] at c_11
    refine lv_aload_n hx hb dX6_clashAt_14 rfl (lv_at hl 2 rfl) ?_
    refine lv_iload hx hb dX6_clashAt_15 (lv_at hl 0 rfl) ?_
    refine lv_iload_n hx hb dX6_clashAt_17 rfl (lv_at hl 3 rfl) ?_
    refine lv_iload_n hx hb dX6_clashAt_18 rfl (lv_at hl 4 rfl) ?_
    refine x_callV (As := [.int (nI i), .int (nI k), .int (nI wy)]) (rest := []) X hw hl.1 (c_X6_isPushed l D cI cZ mx m1 m2 m3 m4 m5 m6 m7 m8 m9 m10 n nl ct oo ii ss i k wy (by first | assumption | omega) (by first | assumption | omega) (by first | assumption | omega) (by first | assumption | omega) (by first | assumption | omega) (by first | assumption | omega) (by first | assumption | omega) (by first | assumption | omega) (by first | assumption | omega)) (cwV 3 hts gX6_clashAt_X6_isPushed rfl rfl rfl (by decide +kernel) ⟨Nat.le_of_ble_eq_true rfl, Nat.le_of_ble_eq_true rfl⟩) [0, 1, 2, 3] rfl rfl 0 rfl rfl rfl rfl (Nat.le_of_ble_eq_true rfl) dX6_clashAt_19 (by decide) (fun r w1 H locs hp hw1 => ?_)
    obtain ⟨rfl, rfl⟩ := hp
    have hw : WD D A s.heap [(mx, .inr (6, [.int (nI n), .ref m1, .ref m2, .ref m3, .ref m4, .int (nI nl), .ref m5, .ref m6, .ref m7, .ref m8, .ref m9, .int (nI ct), .ref m10])), (m1, .inl (cI, 16, .inl (iA oo))), (m2, .inl (cI, 16, .inl (iA ii))), (m9, .inl (cI, 17, .inl (iA ss)))] H locs := hw1 rfl
    refine lv_if_eq (tgt := 57) hx hb dX6_clashAt_22 (by decide) (fun c_22 => ?_) (fun c_22 => ?_)
    · skip
      rw [q_b0] at c_22; try simp only [Bool.not_eq_false, Bool.not_eq_true] at c_22
      refine lv_iinc (v := nI (i + 1)) (lv' := [(4, .int (nI (i + 1))), (3, .int (nI a)), (0, .ref mx), (1, .int (nI k)), (2, .int (nI wy))]) hx hb dX6_clashAt_57 hl (k := 0) rfl (nI_add i 1) (by decide) rfl (fun ls hl => ?_)
      refine lv_goto (tgt := 5) hx hb dX6_clashAt_60 (by decide) ?_
      exact ih_5 (a, i + 1) (by show n - (i + 1) < n - i; omega) ⟨(show (i + 1) ≤ n from by omega), (show a = clR oo ii ss n ct wy k (i + 1) from by rw [ha]; simp [clR, fo, c_22])⟩ _ _ _ hw (lv_sub hl [0, 1, 2, 3, 4] rfl)
    · skip
      rw [q_b0] at c_22; try simp only [Bool.not_eq_false, Bool.not_eq_true] at c_22
      refine lv_iload_n hx hb dX6_clashAt_25 rfl (lv_at hl 1 rfl) ?_
      refine lv_aload_n hx hb dX6_clashAt_26 rfl (lv_at hl 2 rfl) ?_
      refine x_get X hw f7 0 rfl rfl dX6_clashAt_27 ?_
      refine lv_iload_n hx hb dX6_clashAt_30 rfl (lv_at hl 3 rfl) ?_
      refine x_aldN X hw 1 rfl (by omega) (by omega) dX6_clashAt_31 ?_
      have hb_31 := hoo k
      refine lv_aload_n hx hb dX6_clashAt_32 rfl (lv_at hl 2 rfl) ?_
      refine x_get X hw f13 0 rfl rfl dX6_clashAt_33 ?_
      refine lv_iload hx hb dX6_clashAt_36 (lv_at hl 0 rfl) ?_
      refine x_aldN X hw 2 rfl (by omega) (by omega) dX6_clashAt_38 ?_
      have hb_38 := hii i
      refine lv_iand hx hb dX6_clashAt_39 ?_
      refine cv_i (show nI (oo k) &&& nI (ii i) = nI ((oo k) &&& (ii i)) from q_and (oo k) (ii i)) ?_
      refine lv_aload_n hx hb dX6_clashAt_40 rfl (lv_at hl 2 rfl) ?_
      refine x_get X hw f13 0 rfl rfl dX6_clashAt_41 ?_
      refine lv_iload_n hx hb dX6_clashAt_44 rfl (lv_at hl 3 rfl) ?_
      refine x_aldN X hw 2 rfl (by omega) (by omega) dX6_clashAt_45 ?_
      have hb_45 := hii k
      refine lv_aload_n hx hb dX6_clashAt_46 rfl (lv_at hl 2 rfl) ?_
      refine x_get X hw f7 0 rfl rfl dX6_clashAt_47 ?_
      refine lv_iload hx hb dX6_clashAt_50 (lv_at hl 0 rfl) ?_
      refine x_aldN X hw 1 rfl (by omega) (by omega) dX6_clashAt_52 ?_
      have hb_52 := hoo i
      refine lv_iand hx hb dX6_clashAt_53 ?_
      refine cv_i (show nI (ii k) &&& nI (oo i) = nI ((ii k) &&& (oo i)) from q_and (ii k) (oo i)) ?_
      refine lv_ior hx hb dX6_clashAt_54 ?_
      refine cv_i (show nI ((oo k) &&& (ii i)) ||| nI ((ii k) &&& (oo i)) = nI (((oo k) &&& (ii i)) ||| ((ii k) &&& (oo i))) from q_or ((oo k) &&& (ii i)) ((ii k) &&& (oo i))) ?_
      refine lv_ior hx hb dX6_clashAt_55 ?_
      refine cv_i (show nI a ||| nI (((oo k) &&& (ii i)) ||| ((ii k) &&& (oo i))) = nI (a ||| (((oo k) &&& (ii i)) ||| ((ii k) &&& (oo i)))) from q_or a (((oo k) &&& (ii i)) ||| ((ii k) &&& (oo i)))) ?_
      refine lv_istore_n (lv' := [(3, .int (nI (a ||| (((oo k) &&& (ii i)) ||| ((ii k) &&& (oo i)))))), (4, .int (nI i)), (0, .ref mx), (1, .int (nI k)), (2, .int (nI wy))]) hx hb dX6_clashAt_56 rfl hl (by decide) rfl (fun ls hl => ?_)
      refine lv_iinc (v := nI (i + 1)) (lv' := [(4, .int (nI (i + 1))), (3, .int (nI (a ||| (((oo k) &&& (ii i)) ||| ((ii k) &&& (oo i)))))), (0, .ref mx), (1, .int (nI k)), (2, .int (nI wy))]) hx hb dX6_clashAt_57 hl (k := 1) rfl (nI_add i 1) (by decide) rfl (fun ls hl => ?_)
      refine lv_goto (tgt := 5) hx hb dX6_clashAt_60 (by decide) ?_
      exact ih_5 (a ||| (((oo k) &&& (ii i)) ||| ((ii k) &&& (oo i))), i + 1) (by show n - (i + 1) < n - i; omega) ⟨(show (i + 1) ≤ n from by omega), (show (a ||| (((oo k) &&& (ii i)) ||| ((ii k) &&& (oo i)))) = clR oo ii ss n ct wy k (i + 1) from by rw [ha]; simp [clR, fo, c_22])⟩ _ _ _ hw (lv_sub hl [0, 1, 2, 3, 4] rfl)
set_option maxHeartbeats 4000000 in
set_option maxRecDepth 100000 in
theorem c_X6_firstClash (l : Launch) (D : va_G) (cI cZ : ClassId) (mx : Nat) (m1 : Nat) (m2 : Nat) (m3 : Nat) (m4 : Nat) (m5 : Nat) (m6 : Nat) (m7 : Nat) (m8 : Nat) (m9 : Nat) (m10 : Nat) (n : Nat) (nl : Nat) (ct : Nat) (oo : Nat → Nat) (ii : Nat → Nat) (ss : Nat → Nat) (wy : Nat) (hn : n ≤ 16) (hoo : ∀ k, oo k < 64) (hii : ∀ k, ii k < 64) (hss : ∀ k, ss k < 64) (hn0 : 0 < n) (hwy : wy < 2) : MI l D cI cZ yX6_firstClash wsX6_firstClash ({ frames := 4, cells := 0, slots := 0, locals := 92 }) [.ref mx, .int (nI wy)] [(mx, .inr (6, [.int (nI n), .ref m1, .ref m2, .ref m3, .ref m4, .int (nI nl), .ref m5, .ref m6, .ref m7, .ref m8, .ref m9, .int (nI ct), .ref m10])), (m1, .inl (cI, 16, .inl (iA oo))), (m2, .inl (cI, 16, .inl (iA ii))), (m9, .inl (cI, 17, .inl (iA ss)))] (fun r w => ∃ c9 : Nat, (c9 = fcF oo ii n (1 <<< n - 1)) ∧ (0 < c9) ∧ (c9 < 1 <<< n) ∧ r = (fsI (crP oo ii ss n c9 wy) n) ∧ w = [(mx, .inr (6, [.int (nI n), .ref m1, .ref m2, .ref m3, .ref m4, .int (nI nl), .ref m5, .ref m6, .ref m7, .ref m8, .ref m9, .int (nI c9), .ref m10])), (m1, .inl (cI, 16, .inl (iA oo))), (m2, .inl (cI, 16, .inl (iA ii))), (m9, .inl (cI, 17, .inl (iA ss)))]) := by
  refine MI.of (cc := cX6_firstClash) (maxL := 3) (ret := (some .int)) (own := RX6) (by decide) rfl rfl (Nat.le_of_ble_eq_true rfl) ?_
  intro pQ eQ s mQ args below meth cQ A X hw ls hl
  obtain ⟨⟨hx, hb, hml, hown, hts⟩, hr, hlk, hK, hN, hA⟩ := id X
  have hl : lv_has ls 3 [(0, .ref mx), (1, .int (nI wy))] := hl
  have n6 : ∀ w ∈ wsX60, w ∈ wsX6_firstClash := by decide +kernel
  have f45 : FF args s RX6 wsX6_firstClash 45 6 0 := ⟨_, rfl, by decide, n6, hts (.fieldLink RX6 45 "AirStepsModel" "n" "I") (by decide +kernel)⟩
  refine lv_aload_n hx hb dX6_firstClash_0 rfl (lv_at hl 0 rfl) ?_
  refine x_callVv (As := []) (rest := []) X hw hl.1 (c_X6_findCuts l D cI cZ mx m1 m2 m3 m4 m5 m6 m7 m8 m9 m10 n nl ct oo ii (by first | assumption | omega) (by first | assumption | omega) (by first | assumption | omega) (by first | assumption | omega)) (cwV 0 hts gX6_firstClash_X6_findCuts rfl rfl rfl (by decide +kernel) ⟨Nat.le_of_ble_eq_true rfl, Nat.le_of_ble_eq_true rfl⟩) [0, 1, 2] rfl rfl 0 rfl rfl rfl rfl (Nat.le_of_ble_eq_true rfl) dX6_firstClash_1 (by decide) (fun w1 H locs hp hw1 => ?_)
  obtain ⟨c2, hc2, rfl⟩ := hp
  have hw : WD D A s.heap [(mx, .inr (6, [.int (nI n), .ref m1, .ref m2, .ref m3, .ref m4, .int (nI nl), .ref m5, .ref m6, .ref m7, .ref m8, .ref m9, .int (nI c2), .ref m10])), (m1, .inl (cI, 16, .inl (iA oo))), (m2, .inl (cI, 16, .inl (iA ii))), (m9, .inl (cI, 17, .inl (iA ss)))] H locs := hw1 rfl
  have hcb := fcF_bd (oo := oo) (ii := ii) hn0 (1 <<< n - 1) (by have := shn2 hn0; omega)
  rw [← hc2] at hcb
  have hc0 := hcb.1
  have hc1 := hcb.2
  refine lv_iconst (v := nI 0) hx hb dX6_firstClash_4 (by decide) ?_
  refine lv_istore_n (lv' := [(2, .int (nI 0)), (0, .ref mx), (1, .int (nI wy))]) hx hb dX6_firstClash_5 rfl hl (by decide) rfl (fun ls hl => ?_)
  refine wl (α := Nat) (nL := 3) (fun aQ => n - aQ) (fun aQ => (aQ ≤ n) ∧ (∀ j, j < aQ → crP oo ii ss n c2 wy j = false)) (fun aQ => [(mx, .inr (6, [.int (nI n), .ref m1, .ref m2, .ref m3, .ref m4, .int (nI nl), .ref m5, .ref m6, .ref m7, .ref m8, .ref m9, .int (nI c2), .ref m10])), (m1, .inl (cI, 16, .inl (iA oo))), (m2, .inl (cI, 16, .inl (iA ii))), (m9, .inl (cI, 17, .inl (iA ss)))]) (fun aQ => [(2, .int (nI aQ)), (0, .ref mx), (1, .int (nI wy))]) ?_ 0 ⟨(show 0 ≤ n from by omega), (show ∀ j, j < 0 → crP oo ii ss n c2 wy j = false from fun j hj => absurd hj (Nat.not_lt_zero j))⟩ _ _ _ hw (lv_sub hl [0, 1, 2] rfl)
  rintro i ⟨hi, hq⟩ H locs ls hw hl ih_6
  have hi : i ≤ n := hi
  have hq : ∀ j, j < i → crP oo ii ss n c2 wy j = false := hq
  have hw : WD D A s.heap [(mx, .inr (6, [.int (nI n), .ref m1, .ref m2, .ref m3, .ref m4, .int (nI nl), .ref m5, .ref m6, .ref m7, .ref m8, .ref m9, .int (nI c2), .ref m10])), (m1, .inl (cI, 16, .inl (iA oo))), (m2, .inl (cI, 16, .inl (iA ii))), (m9, .inl (cI, 17, .inl (iA ss)))] H locs := hw
  have hl : lv_has ls 3 [(2, .int (nI i)), (0, .ref mx), (1, .int (nI wy))] := hl
  refine lv_iload_n hx hb dX6_firstClash_6 rfl (lv_at hl 0 rfl) ?_
  refine lv_aload_n hx hb dX6_firstClash_7 rfl (lv_at hl 1 rfl) ?_
  refine x_get X hw f45 0 rfl rfl dX6_firstClash_8 ?_
  refine lv_icmp_ge (tgt := 31) hx hb dX6_firstClash_11 (by decide) (fun c_11 => ?_) (fun c_11 => ?_)
  · skip
    rw [nI_leI (by omega) (by omega)] at c_11
    refine lv_iconst (v := (-1)) hx hb dX6_firstClash_31 (by decide) ?_
    exact x_iret X hw (⟨c2, (hc2), (hc0), (hc1), ((fsI_no (fun j hj => hq j (by omega))).symm), rfl⟩) dX6_firstClash_32
  · skip
    rw [nI_leI (by omega) (by omega)] at c_11
    refine lv_aload_n hx hb dX6_firstClash_14 rfl (lv_at hl 1 rfl) ?_
    refine lv_iload_n hx hb dX6_firstClash_15 rfl (lv_at hl 0 rfl) ?_
    refine lv_iload_n hx hb dX6_firstClash_16 rfl (lv_at hl 2 rfl) ?_
    refine x_callV (As := [.int (nI i), .int (nI wy)]) (rest := []) X hw hl.1 (c_X6_clashAt l D cI cZ mx m1 m2 m3 m4 m5 m6 m7 m8 m9 m10 n nl c2 oo ii ss i wy (by first | assumption | omega) (by first | assumption | omega) (by first | assumption | omega) (by first | assumption | omega) (by first | assumption | omega) (by first | assumption | omega) (by first | assumption | omega) (by first | assumption | omega)) (cwV 2 hts gX6_firstClash_X6_clashAt rfl rfl rfl (by decide +kernel) ⟨Nat.le_of_ble_eq_true rfl, Nat.le_of_ble_eq_true rfl⟩) [0, 1, 2, 3] rfl rfl 0 rfl rfl rfl rfl (Nat.le_of_ble_eq_true rfl) dX6_firstClash_17 (by decide) (fun r w1 H locs hp hw1 => ?_)
    obtain ⟨rfl, rfl⟩ := hp
    have hw : WD D A s.heap [(mx, .inr (6, [.int (nI n), .ref m1, .ref m2, .ref m3, .ref m4, .int (nI nl), .ref m5, .ref m6, .ref m7, .ref m8, .ref m9, .int (nI c2), .ref m10])), (m1, .inl (cI, 16, .inl (iA oo))), (m2, .inl (cI, 16, .inl (iA ii))), (m9, .inl (cI, 17, .inl (iA ss)))] H locs := hw1 rfl
    have hcl := clR_lt (ss := ss) (n := n) (ct := c2) (wy := wy) (k := i) hoo hii n
    refine lv_if_eq (tgt := 25) hx hb dX6_firstClash_20 (by decide) (fun c_20 => ?_) (fun c_20 => ?_)
    · skip
      rw [q_eq0 (by omega)] at c_20
      refine lv_iinc (v := nI (i + 1)) (lv' := [(2, .int (nI (i + 1))), (0, .ref mx), (1, .int (nI wy))]) hx hb dX6_firstClash_25 hl (k := 0) rfl (nI_add i 1) (by decide) rfl (fun ls hl => ?_)
      refine lv_goto (tgt := 6) hx hb dX6_firstClash_28 (by decide) ?_
      exact ih_6 (i + 1) (by show n - (i + 1) < n - i; omega) ⟨(show (i + 1) ≤ n from by omega), (show ∀ j, j < (i + 1) → crP oo ii ss n c2 wy j = false from lt_snoc hq (by simp [crP, c_20]))⟩ _ _ _ hw (lv_sub hl [0, 1, 2] rfl)
    · skip
      rw [q_eq0 (by omega)] at c_20
      refine lv_iload_n hx hb dX6_firstClash_23 rfl (lv_at hl 0 rfl) ?_
      exact x_iret X hw (⟨c2, (hc2), (hc0), (hc1), ((fsI_yes (by omega) hq (by simp [crP, c_20])).symm), rfl⟩) dX6_firstClash_24
