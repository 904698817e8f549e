/-! ===== AirSteps: what is called from outside ===== -/
def gd1 (f v : Int32) : Int32 := if f = -1 then v else -3
def gd2 (b : Bool) (f v : Int32) : Int32 := if b then gd1 f v else -2
theorem gd1_t {f v : Int32} (h : f = -1) : gd1 f v = v := if_pos h
theorem gd1_f {f v : Int32} (h : ¬ f = -1) : gd1 f v = -3 := if_neg h
theorem gd2_t {b : Bool} {f v : Int32} (hb : b = true) : gd2 b f v = gd1 f v := by rw [hb]; rfl
theorem gd2_f {b : Bool} {f v : Int32} (hb : b = false) : gd2 b f v = -2 := by rw [hb]; rfl
def bad2 (x y : Int32) : Bool := !(bel x (nI 64)) || !(bel y (nI 64)) || decide (x ||| y = 0) || decide (¬ x &&& y = 0)
/-- step: what comes back, and the text behind it -/
def STP (x y : Int32) (n : Nat) (en st : Nat → Nat) (r : Int32) (n9 : Nat) (en9 st9 : Nat → Nat) : Prop :=
  (n9 = n ∧ en9 = en ∧ st9 = st ∧ ((bad2 x y = true ∧ r = -2) ∨ (bad2 x y = false ∧ n = 16 ∧ r = -4))) ∨
  (∃ a b : Nat, a < 64 ∧ b < 64 ∧ x = nI a ∧ y = nI b ∧ bad2 x y = false ∧ n < 16 ∧ r = nI (n + 1) ∧ n9 = n + 1 ∧ en9 = va_up en n (a <<< 6 ||| b) ∧ st9 = va_up st (n + 1) (anN (st n ||| a) b))
def memN (a : Nat) : Nat := fs (fun b => decide (¬ 1 <<< b < a)) 16
def okP (x lo hi : Int32) : Bool := bel x (nI 6) && decide (¬ lo < nI 1) && decide (¬ nI 100 < hi) && decide (lo ≤ hi)
def PAC (x : Int32) (o : Bool) (lo hi : Int32) (le mo : Nat → Nat) (r : Int32) (le9 mo9 : Nat → Nat) : Prop :=
  (okP x lo hi = false ∧ r = -2 ∧ le9 = le ∧ mo9 = mo) ∨
  (∃ k a b : Nat, k < 6 ∧ x = nI k ∧ lo = nI a ∧ hi = nI b ∧ a < 101 ∧ b < 101 ∧ okP x lo hi = true ∧ r = nI 1 ∧ le9 = va_up le (enE k o) a ∧ mo9 = va_up mo (enE k o) b)
def okL (x y : Int32) : Bool := bel x (nI 6) && bel y (nI 6) && decide (¬ x = y)
def LAWR (x : Int32) (o : Bool) (y : Int32) (q : Bool) (nl : Nat) (ba wh dp : Nat → Nat) (r : Int32) (nl9 : Nat) (ba9 wh9 dp9 : Nat → Nat) : Prop :=
  (nl9 = nl ∧ ba9 = ba ∧ wh9 = wh ∧ dp9 = dp ∧ ((okL x y = false ∧ r = -2) ∨ (okL x y = true ∧ nl = 12 ∧ r = -4))) ∨
  (∃ a b : Nat, ∃ qu : Nat → Nat, (∀ k, qu k < 64) ∧ a < 6 ∧ b < 6 ∧ x = nI a ∧ y = nI b ∧ okL x y = true ∧ nl < 12 ∧ r = nI nl ∧ nl9 = nl + 1 ∧ ba9 = va_up ba nl (enE a o) ∧ wh9 = va_up wh nl (enE b q) ∧ dp9 = (msF (alM ba9 wh9 nl9) qu 64).1)
def REPR (x : Int32) (nl : Nat) (ba wh dp : Nat → Nat) (r : Int32) (nl9 : Nat) (ba9 wh9 dp9 : Nat → Nat) : Prop :=
  (nl9 = nl ∧ ba9 = ba ∧ wh9 = wh ∧ dp9 = dp ∧ bel x (nI nl) = false ∧ r = -2) ∨
  (∃ k : Nat, ∃ qu : Nat → Nat, (∀ k, qu k < 64) ∧ k < nl ∧ x = nI k ∧ r = nI 1 ∧ nl9 = nl - 1 ∧ (∀ j, ba9 j = if k ≤ j ∧ j < nl - 1 then ba (j + 1) else ba j) ∧ (∀ j, wh9 j = if k ≤ j ∧ j < nl - 1 then wh (j + 1) else wh j) ∧ dp9 = (msF (alM ba9 wh9 nl9) qu 64).1)
def clO (en st cu : Nat → Nat) (n sz wy : Nat) : Int32 := if fs (clP en st cu n sz wy) n < n then fsI (fun c => (cls en st cu n sz wy (fs (clP en st cu n sz wy) n)).testBit c) 6 else -1
def exC (en : Nat → Nat) (n i : Nat) : Nat := fo (fun k a => a ||| en (pr n k)) 0 i
theorem exC_lt {en : Nat → Nat} {n : Nat} (h : ∀ j, en j < 4096) : ∀ i : Nat, exC en n i < 4096
  | 0 => by show 0 < 4096; omega
  | i + 1 => Nat.or_lt_two_pow (n := 12) (exC_lt h i) (h _)
theorem nc (k : Nat) (h : k < 2 ^ 31) : (nI k).toNatClampNeg = k := nI_clamp h
theorem fsI_n {P : Nat → Bool} {n : Nat} (hn : n < 2 ^ 31) (h : ¬ fsI P n = -1) : fs P n < n ∧ fsI P n = nI (fs P n) := by
  unfold fsI at h ⊢
  by_cases hq : fs P n < n
  · exact ⟨hq, if_pos hq⟩
  · rw [if_neg hq] at h
    exact absurd rfl h
theorem fsI_m {P : Nat → Bool} {n : Nat} (hn : n < 2 ^ 31) (h : fsI P n = -1) : ¬ fs P n < n := by
  intro hq
  unfold fsI at h
  rw [if_pos hq, ← Int32.toInt_inj, nI_toInt (by omega), show (-1 : Int32).toInt = -1 by decide] at h
  omega
theorem sh_lt {i : Nat} (h : i < 16) : 1 <<< i < 2 ^ 31 := by
  rw [Nat.one_shiftLeft]
  exact Nat.pow_lt_pow_right (by decide) (by omega)
theorem mal_le (st : Nat → Nat) (n : Nat) : ∀ i : Nat, mal st n i ≤ n
  | 0 => Nat.zero_le n
  | i + 1 => Nat.max_le.mpr ⟨mal_le st n i, alk_le st (st i) n⟩
theorem i_nlt {a b : Int32} (h : ¬ a < b) : b ≤ a := Int32.not_lt.mp h
theorem i_le_trans {a b c : Int32} (h : a ≤ b) (h2 : b ≤ c) : a ≤ c := by
  rw [Int32.le_iff_toInt_le] at *
  omega
theorem i_nlt_of {a b c : Int32} (h : ¬ a < c) (h2 : a ≤ b) : ¬ b < c := by
  rw [Int32.lt_iff_toInt_lt] at *
  rw [Int32.le_iff_toInt_le] at h2
  omega
theorem p_nI {x : Int32} (h : ¬ x < nI 1) (h2 : x ≤ nI 100) : ∃ a : Nat, 1 ≤ a ∧ a ≤ 100 ∧ x = nI a := by
  have h0 : ¬ x < 0 := by
    intro q
    apply h
    rw [Int32.lt_iff_toInt_lt] at *
    have h3 : (nI 1).toInt = 1 := by decide
    have h4 : (0 : Int32).toInt = 0 := by decide
    omega
  obtain ⟨a, ha, rfl⟩ := nI_of2 (M := nI 100) (n := 100) (by decide) h0 h2
  refine ⟨a, ?_, ha, rfl⟩
  rcases Nat.eq_zero_or_pos a with q | q
  · subst q
    exact absurd (by decide) h
  · exact q
set_option maxHeartbeats 4000000 in
set_option maxRecDepth 100000 in
theorem c_X5_step (l : Launch) (D : va_G) (cI cZ : ClassId) (ax : Nat) (t : Nat) (ga : Nat) (la : Nat) (wa : Nat) (pa : Nat) (te : Nat) (ts : Nat) (en : Nat → Nat) (st : Nat → Nat) (n : Nat) (x : Int32) (y : Int32) (hn : n ≤ 16) (hen : ∀ k, en k < 4096) (hst : ∀ k, st k < 64) : MI l D cI cZ yX5_step wsX5_step ({ frames := 2, cells := 0, slots := 0, locals := 43 }) [.ref ax, .int x, .int y] [(ax, .inr (5, [.ref t, .ref ga, .ref la, .ref wa, .ref pa])), (t, .inr (3, [.ref te, .ref ts, .int (nI n)])), (te, .inl (cI, 16, .inl (iA en))), (ts, .inl (cI, 17, .inl (iA st)))] (fun r w => ∃ r9 : Int32, ∃ n9 : Nat, ∃ en9 : Nat → Nat, ∃ st9 : Nat → Nat, (STP x y n en st r9 n9 en9 st9) ∧ r = r9 ∧ w = [(ax, .inr (5, [.ref t, .ref ga, .ref la, .ref wa, .ref pa])), (t, .inr (3, [.ref te, .ref ts, .int (nI n9)])), (te, .inl (cI, 16, .inl (iA en9))), (ts, .inl (cI, 17, .inl (iA st9)))]) := by
  refine MI.of (cc := cX5_step) (maxL := 3) (ret := (some .int)) (own := RX5) (by decide) rfl rfl (Nat.le_of_ble_eq_true rfl) ?_
  intro pQ eQ s mQ args below meth cQ A X hw ls hl
  obtain ⟨⟨hx, hb, hml, hown, hts⟩, hr, hlk, hK, hN, hA⟩ := id X
  have hl : lv_has ls 3 [(0, .ref ax), (1, .int x), (2, .int y)] := hl
  have n5 : ∀ w ∈ wsX50, w ∈ wsX5_step := by decide +kernel
  have f10 : FF args s RX5 wsX5_step 10 5 0 := ⟨_, rfl, by decide, n5, hts (.fieldLink RX5 10 "AirSteps" "text" "LAirSteps$Text;") (by decide +kernel)⟩
  refine lv_iload_n hx hb dX5_step_0 rfl (lv_at hl 1 rfl) ?_
  refine x_callS (As := [.int x]) (rest := []) X hw hl.1 (c_X5_isState l D cI cZ x ) (va_cwS 1 hts gX5_step_X5_isState rfl rfl rfl (by decide +kernel) ⟨Nat.le_of_ble_eq_true rfl, Nat.le_of_ble_eq_true rfl⟩) [] rfl rfl rfl (Nat.le_of_ble_eq_true rfl) dX5_step_1 (by decide) (fun r w1 H locs hp hw1 => ?_)
  obtain ⟨rfl, rfl⟩ := hp
  have hw : WD D A s.heap [(ax, .inr (5, [.ref t, .ref ga, .ref la, .ref wa, .ref pa])), (t, .inr (3, [.ref te, .ref ts, .int (nI n)])), (te, .inl (cI, 16, .inl (iA en))), (ts, .inl (cI, 17, .inl (iA st)))] H locs := hw1 rfl
  refine lv_if_eq (tgt := 14) hx hb dX5_step_4 (by decide) (fun c_4 => ?_) (fun c_4 => ?_)
  · skip
    rw [q_b0] at c_4; try simp only [Bool.not_eq_false, Bool.not_eq_true] at c_4
    refine lv_bipush (v := (-2)) hx hb dX5_step_14 (by decide) ?_
    exact x_iret X hw (⟨_, _, _, _, (Or.inl ⟨rfl, rfl, rfl, Or.inl ⟨by simp [bad2, c_4], rfl⟩⟩), (rfl), rfl⟩) dX5_step_16
  · skip
    rw [q_b0] at c_4; try simp only [Bool.not_eq_false, Bool.not_eq_true] at c_4
    obtain ⟨a, ha, rfl⟩ := bel_t (by decide) c_4
    refine lv_iload_n hx hb dX5_step_7 rfl (lv_at hl 2 rfl) ?_
    refine x_callS (As := [.int y]) (rest := []) X hw hl.1 (c_X5_isState l D cI cZ y ) (va_cwS 1 hts gX5_step_X5_isState rfl rfl rfl (by decide +kernel) ⟨Nat.le_of_ble_eq_true rfl, Nat.le_of_ble_eq_true rfl⟩) [] rfl rfl rfl (Nat.le_of_ble_eq_true rfl) dX5_step_8 (by decide) (fun r w1 H locs hp hw1 => ?_)
    obtain ⟨rfl, rfl⟩ := hp
    have hw : WD D A s.heap [(ax, .inr (5, [.ref t, .ref ga, .ref la, .ref wa, .ref pa])), (t, .inr (3, [.ref te, .ref ts, .int (nI n)])), (te, .inl (cI, 16, .inl (iA en))), (ts, .inl (cI, 17, .inl (iA st)))] H locs := hw1 rfl
    refine lv_if_ne (tgt := 17) hx hb dX5_step_11 (by decide) (fun c_11 => ?_) (fun c_11 => ?_)
    · skip
      rw [q_b0] at c_11; try simp only [Bool.not_eq_false, Bool.not_eq_true] at c_11
      obtain ⟨b, hb9, rfl⟩ := bel_t (by decide) c_11
      refine lv_iload_n hx hb dX5_step_17 rfl (lv_at hl 1 rfl) ?_
      refine lv_iload_n hx hb dX5_step_18 rfl (lv_at hl 2 rfl) ?_
      refine lv_ior hx hb dX5_step_19 ?_
      refine cv_i (show nI a ||| nI b = nI (a ||| b) from q_or a b) ?_
      refine lv_if_eq (tgt := 29) hx hb dX5_step_20 (by decide) (fun c_20 => ?_) (fun c_20 => ?_)
      · skip
        rw [q_eq0 (Nat.lt_trans (Nat.or_lt_two_pow (n := 6) ha hb9) (by decide))] at c_20
        refine lv_bipush (v := (-2)) hx hb dX5_step_29 (by decide) ?_
        exact x_iret X hw (⟨_, _, _, _, (Or.inl ⟨rfl, rfl, rfl, Or.inl ⟨by first | (simp [bad2, q_or, c_20, show nI 0 = 0 from rfl]; done) | (simp [bad2, q_and, q_eq0 (show a &&& b < 2 ^ 31 from Nat.lt_of_le_of_lt Nat.and_le_left (by omega)), c_26]; done), rfl⟩⟩), (rfl), rfl⟩) dX5_step_31
      · skip
        rw [q_eq0 (Nat.lt_trans (Nat.or_lt_two_pow (n := 6) ha hb9) (by decide))] at c_20
        refine lv_iload_n hx hb dX5_step_23 rfl (lv_at hl 1 rfl) ?_
        refine lv_iload_n hx hb dX5_step_24 rfl (lv_at hl 2 rfl) ?_
        refine lv_iand hx hb dX5_step_25 ?_
        refine cv_i (show nI a &&& nI b = nI (a &&& b) from q_and a b) ?_
        refine lv_if_eq (tgt := 32) hx hb dX5_step_26 (by decide) (fun c_26 => ?_) (fun c_26 => ?_)
        · skip
          rw [q_eq0 (Nat.lt_of_le_of_lt Nat.and_le_left (by omega))] at c_26
          have hbad : bad2 (nI a) (nI b) = false := by simp [bad2, c_4, c_11, q_or, q_and, q_eq0 (show a ||| b < 2 ^ 31 from Nat.lt_trans (Nat.or_lt_two_pow (n := 6) ha hb9) (by decide)), q_eq0 (show a &&& b < 2 ^ 31 from Nat.lt_of_le_of_lt Nat.and_le_left (by omega)), c_20, c_26, nI_0]
          refine lv_aload_n hx hb dX5_step_32 rfl (lv_at hl 0 rfl) ?_
          refine x_get X hw f10 0 rfl rfl dX5_step_33 ?_
          refine x_callV (As := []) (rest := []) X hw hl.1 (c_X3_size l D cI cZ t te ts en st n ) (cwV 0 hts gX5_step_X3_size rfl rfl rfl (by decide +kernel) ⟨Nat.le_of_ble_eq_true rfl, Nat.le_of_ble_eq_true rfl⟩) [1, 2, 3] rfl rfl 0 rfl rfl rfl rfl (Nat.le_of_ble_eq_true rfl) dX5_step_36 (by decide) (fun r w1 H locs hp hw1 => ?_)
          obtain ⟨rfl, rfl⟩ := hp
          have hw : WD D A s.heap [(ax, .inr (5, [.ref t, .ref ga, .ref la, .ref wa, .ref pa])), (t, .inr (3, [.ref te, .ref ts, .int (nI n)])), (te, .inl (cI, 16, .inl (iA en))), (ts, .inl (cI, 17, .inl (iA st)))] H locs := hw1 rfl
          refine lv_bipush (v := nI 16) hx hb dX5_step_39 (by decide) ?_
          refine lv_icmp_lt (tgt := 47) hx hb dX5_step_41 (by decide) (fun c_41 => ?_) (fun c_41 => ?_)
          · skip
            rw [nI_ltI (by omega) (by omega)] at c_41
            refine lv_aload_n hx hb dX5_step_47 rfl (lv_at hl 0 rfl) ?_
            refine x_get X hw f10 0 rfl rfl dX5_step_48 ?_
            refine lv_iload_n hx hb dX5_step_51 rfl (lv_at hl 1 rfl) ?_
            refine lv_iload_n hx hb dX5_step_52 rfl (lv_at hl 2 rfl) ?_
            refine x_callVv (As := [.int (nI a), .int (nI b)]) (rest := []) X hw hl.1 (c_X3_add l D cI cZ t te ts en st n a b (by omega) (by first | assumption | omega) (by first | assumption | omega)) (cwV 2 hts gX5_step_X3_add rfl rfl rfl (by decide +kernel) ⟨Nat.le_of_ble_eq_true rfl, Nat.le_of_ble_eq_true rfl⟩) [1, 2, 3] rfl rfl 0 rfl rfl rfl rfl (Nat.le_of_ble_eq_true rfl) dX5_step_53 (by decide) (fun w1 H locs hp hw1 => ?_)
            obtain rfl := hp
            have hw : WD D A s.heap [(ax, .inr (5, [.ref t, .ref ga, .ref la, .ref wa, .ref pa])), (t, .inr (3, [.ref te, .ref ts, .int (nI (n + 1))])), (te, .inl (cI, 16, .inl (iA (va_up en n (a <<< 6 ||| b))))), (ts, .inl (cI, 17, .inl (iA (va_up st (n + 1) (anN (st n ||| a) b)))))] H locs := hw1 rfl
            refine lv_aload_n hx hb dX5_step_56 rfl (lv_at hl 0 rfl) ?_
            refine x_get X hw f10 0 rfl rfl dX5_step_57 ?_
            refine x_callV (As := []) (rest := []) X hw hl.1 (c_X3_size l D cI cZ t te ts (va_up en n (a <<< 6 ||| b)) (va_up st (n + 1) (anN (st n ||| a) b)) (n + 1) ) (cwV 0 hts gX5_step_X3_size rfl rfl rfl (by decide +kernel) ⟨Nat.le_of_ble_eq_true rfl, Nat.le_of_ble_eq_true rfl⟩) [1, 2, 3] rfl rfl 0 rfl rfl rfl rfl (Nat.le_of_ble_eq_true rfl) dX5_step_60 (by decide) (fun r w1 H locs hp hw1 => ?_)
            obtain ⟨rfl, rfl⟩ := hp
            have hw : WD D A s.heap [(ax, .inr (5, [.ref t, .ref ga, .ref la, .ref wa, .ref pa])), (t, .inr (3, [.ref te, .ref ts, .int (nI (n + 1))])), (te, .inl (cI, 16, .inl (iA (va_up en n (a <<< 6 ||| b))))), (ts, .inl (cI, 17, .inl (iA (va_up st (n + 1) (anN (st n ||| a) b)))))] H locs := hw1 rfl
            exact x_iret X hw (⟨_, _, _, _, (Or.inr ⟨a, b, ha, hb9, rfl, rfl, hbad, by omega, rfl, rfl, rfl, rfl⟩), (rfl), rfl⟩) dX5_step_63
          · skip
            rw [nI_ltI (by omega) (by omega)] at c_41
            refine lv_bipush (v := (-4)) hx hb dX5_step_44 (by decide) ?_
            exact x_iret X hw (⟨_, _, _, _, (Or.inl ⟨rfl, rfl, rfl, Or.inr ⟨hbad, by omega, rfl⟩⟩), (rfl), rfl⟩) dX5_step_46
        · skip
          rw [q_eq0 (Nat.lt_of_le_of_lt Nat.and_le_left (by omega))] at c_26
          refine lv_bipush (v := (-2)) hx hb dX5_step_29 (by decide) ?_
          exact x_iret X hw (⟨_, _, _, _, (Or.inl ⟨rfl, rfl, rfl, Or.inl ⟨by first | (simp [bad2, q_or, c_20, show nI 0 = 0 from rfl]; done) | (simp [bad2, q_and, q_eq0 (show a &&& b < 2 ^ 31 from Nat.lt_of_le_of_lt Nat.and_le_left (by omega)), c_26]; done), rfl⟩⟩), (rfl), rfl⟩) dX5_step_31
    · skip
      rw [q_b0] at c_11; try simp only [Bool.not_eq_false, Bool.not_eq_true] at c_11
      refine lv_bipush (v := (-2)) hx hb dX5_step_14 (by decide) ?_
      exact x_iret X hw (⟨_, _, _, _, (Or.inl ⟨rfl, rfl, rfl, Or.inl ⟨by simp [bad2, c_4, c_11], rfl⟩⟩), (rfl), rfl⟩) dX5_step_16
set_option maxHeartbeats 4000000 in
set_option maxRecDepth 100000 in
theorem c_X5_drop (l : Launch) (D : va_G) (cI cZ : ClassId) (ax : Nat) (t : Nat) (ga : Nat) (la : Nat) (wa : Nat) (pa : Nat) (te : Nat) (ts : Nat) (en : Nat → Nat) (st : Nat → Nat) (n : Nat) (hn : n ≤ 16) (hen : ∀ k, en k < 4096) (hst : ∀ k, st k < 64) : MI l D cI cZ yX5_drop wsX5_drop ({ frames := 1, cells := 0, slots := 0, locals := 20 }) [.ref ax] [(ax, .inr (5, [.ref t, .ref ga, .ref la, .ref wa, .ref pa])), (t, .inr (3, [.ref te, .ref ts, .int (nI n)])), (te, .inl (cI, 16, .inl (iA en))), (ts, .inl (cI, 17, .inl (iA st)))] (fun r w => r = (if n = 0 then -3 else nI (n - 1)) ∧ w = [(ax, .inr (5, [.ref t, .ref ga, .ref la, .ref wa, .ref pa])), (t, .inr (3, [.ref te, .ref ts, .int (nI (n - 1))])), (te, .inl (cI, 16, .inl (iA en))), (ts, .inl (cI, 17, .inl (iA st)))]) := by
  refine MI.of (cc := cX5_drop) (maxL := 1) (ret := (some .int)) (own := RX5) (by decide) rfl rfl (Nat.le_of_ble_eq_true rfl) ?_
  intro pQ eQ s mQ args below meth cQ A X hw ls hl
  obtain ⟨⟨hx, hb, hml, hown, hts⟩, hr, hlk, hK, hN, hA⟩ := id X
  have hl : lv_has ls 1 [(0, .ref ax)] := hl
  have n5 : ∀ w ∈ wsX50, w ∈ wsX5_drop := by decide +kernel
  have f10 : FF args s RX5 wsX5_drop 10 5 0 := ⟨_, rfl, by decide, n5, hts (.fieldLink RX5 10 "AirSteps" "text" "LAirSteps$Text;") (by decide +kernel)⟩
  refine lv_aload_n hx hb dX5_drop_0 rfl (lv_at hl 0 rfl) ?_
  refine x_get X hw f10 0 rfl rfl dX5_drop_1 ?_
  refine x_callV (As := []) (rest := []) X hw hl.1 (c_X3_size l D cI cZ t te ts en st n ) (cwV 0 hts gX5_drop_X3_size rfl rfl rfl (by decide +kernel) ⟨Nat.le_of_ble_eq_true rfl, Nat.le_of_ble_eq_true rfl⟩) [1, 2, 3] rfl rfl 0 rfl rfl rfl rfl (Nat.le_of_ble_eq_true rfl) dX5_drop_4 (by decide) (fun r w1 H locs hp hw1 => ?_)
  obtain ⟨rfl, rfl⟩ := hp
  have hw : WD D A s.heap [(ax, .inr (5, [.ref t, .ref ga, .ref la, .ref wa, .ref pa])), (t, .inr (3, [.ref te, .ref ts, .int (nI n)])), (te, .inl (cI, 16, .inl (iA en))), (ts, .inl (cI, 17, .inl (iA st)))] H locs := hw1 rfl
  refine lv_if_ne (tgt := 13) hx hb dX5_drop_7 (by decide) (fun c_7 => ?_) (fun c_7 => ?_)
  · skip
    rw [q_eq0 (by omega)] at c_7
    refine lv_aload_n hx hb dX5_drop_13 rfl (lv_at hl 0 rfl) ?_
    refine x_get X hw f10 0 rfl rfl dX5_drop_14 ?_
    refine x_callVv (As := []) (rest := []) X hw hl.1 (c_X3_removeLast l D cI cZ t te ts en st n (by omega) (by first | assumption | omega)) (cwV 0 hts gX5_drop_X3_removeLast rfl rfl rfl (by decide +kernel) ⟨Nat.le_of_ble_eq_true rfl, Nat.le_of_ble_eq_true rfl⟩) [1, 2, 3] rfl rfl 0 rfl rfl rfl rfl (Nat.le_of_ble_eq_true rfl) dX5_drop_17 (by decide) (fun w1 H locs hp hw1 => ?_)
    obtain rfl := hp
    have hw : WD D A s.heap [(ax, .inr (5, [.ref t, .ref ga, .ref la, .ref wa, .ref pa])), (t, .inr (3, [.ref te, .ref ts, .int (nI (n - 1))])), (te, .inl (cI, 16, .inl (iA en))), (ts, .inl (cI, 17, .inl (iA st)))] H locs := hw1 rfl
    refine lv_aload_n hx hb dX5_drop_20 rfl (lv_at hl 0 rfl) ?_
    refine x_get X hw f10 0 rfl rfl dX5_drop_21 ?_
    refine x_callV (As := []) (rest := []) X hw hl.1 (c_X3_size l D cI cZ t te ts en st (n - 1) ) (cwV 0 hts gX5_drop_X3_size rfl rfl rfl (by decide +kernel) ⟨Nat.le_of_ble_eq_true rfl, Nat.le_of_ble_eq_true rfl⟩) [1, 2, 3] rfl rfl 0 rfl rfl rfl rfl (Nat.le_of_ble_eq_true rfl) dX5_drop_24 (by decide) (fun r w1 H locs hp hw1 => ?_)
    obtain ⟨rfl, rfl⟩ := hp
    have hw : WD D A s.heap [(ax, .inr (5, [.ref t, .ref ga, .ref la, .ref wa, .ref pa])), (t, .inr (3, [.ref te, .ref ts, .int (nI (n - 1))])), (te, .inl (cI, 16, .inl (iA en))), (ts, .inl (cI, 17, .inl (iA st)))] H locs := hw1 rfl
    exact x_iret X hw (⟨(by rw [if_neg c_7]), rfl⟩) dX5_drop_27
  · skip
    rw [q_eq0 (by omega)] at c_7
    refine lv_bipush (v := (-3)) hx hb dX5_drop_10 (by decide) ?_
    exact x_iret X hw (⟨(by rw [if_pos c_7]), (by rw [c_7])⟩) dX5_drop_12
set_option maxHeartbeats 4000000 in
set_option maxRecDepth 100000 in
theorem c_X5_sound (l : Launch) (D : va_G) (cI cZ : ClassId) (ax : Nat) (t : Nat) (ga : Nat) (la : Nat) (wa : Nat) (pa : Nat) (te : Nat) (ts : Nat) (en : Nat → Nat) (st : Nat → Nat) (n : Nat) (hn : n ≤ 16) (hen : ∀ k, en k < 4096) (hst : ∀ k, st k < 64) : MI l D cI cZ yX5_sound wsX5_sound ({ frames := 3, cells := 0, slots := 0, locals := 62 }) [.ref ax] [(ax, .inr (5, [.ref t, .ref ga, .ref la, .ref wa, .ref pa])), (t, .inr (3, [.ref te, .ref ts, .int (nI n)])), (te, .inl (cI, 16, .inl (iA en))), (ts, .inl (cI, 17, .inl (iA st)))] (fun r w => r = (fwC en st n) ∧ w = [(ax, .inr (5, [.ref t, .ref ga, .ref la, .ref wa, .ref pa])), (t, .inr (3, [.ref te, .ref ts, .int (nI n)])), (te, .inl (cI, 16, .inl (iA en))), (ts, .inl (cI, 17, .inl (iA st)))]) := by
  refine MI.of (cc := cX5_sound) (maxL := 1) (ret := (some .int)) (own := RX5) (by decide) rfl rfl (Nat.le_of_ble_eq_true rfl) ?_
  intro pQ eQ s mQ args below meth cQ A X hw ls hl
  obtain ⟨⟨hx, hb, hml, hown, hts⟩, hr, hlk, hK, hN, hA⟩ := id X
  have hl : lv_has ls 1 [(0, .ref ax)] := hl
  have n5 : ∀ w ∈ wsX50, w ∈ wsX5_sound := by decide +kernel
  have f10 : FF args s RX5 wsX5_sound 10 5 0 := ⟨_, rfl, by decide, n5, hts (.fieldLink RX5 10 "AirSteps" "text" "LAirSteps$Text;") (by decide +kernel)⟩
  refine lv_aload_n hx hb dX5_sound_0 rfl (lv_at hl 0 rfl) ?_
  refine x_get X hw f10 0 rfl rfl dX5_sound_1 ?_
  refine x_callV (As := []) (rest := []) X hw hl.1 (c_X3_firstWrong l D cI cZ t te ts en st n (by first | assumption | omega) (by first | assumption | omega) (by first | assumption | omega)) (cwV 0 hts gX5_sound_X3_firstWrong rfl rfl rfl (by decide +kernel) ⟨Nat.le_of_ble_eq_true rfl, Nat.le_of_ble_eq_true rfl⟩) [1, 2, 3] rfl rfl 0 rfl rfl rfl rfl (Nat.le_of_ble_eq_true rfl) dX5_sound_4 (by decide) (fun r w1 H locs hp hw1 => ?_)
  obtain ⟨rfl, rfl⟩ := hp
  have hw : WD D A s.heap [(ax, .inr (5, [.ref t, .ref ga, .ref la, .ref wa, .ref pa])), (t, .inr (3, [.ref te, .ref ts, .int (nI n)])), (te, .inl (cI, 16, .inl (iA en))), (ts, .inl (cI, 17, .inl (iA st)))] H locs := hw1 rfl
  exact x_iret X hw (⟨(by first | rfl | omega), rfl⟩) dX5_sound_7
set_option maxHeartbeats 4000000 in
set_option maxRecDepth 100000 in
theorem c_X5_state (l : Launch) (D : va_G) (cI cZ : ClassId) (ax : Nat) (t : Nat) (ga : Nat) (la : Nat) (wa : Nat) (pa : Nat) (te : Nat) (ts : Nat) (en : Nat → Nat) (st : Nat → Nat) (n : Nat) (x : Int32) (hn : n ≤ 16) (hen : ∀ k, en k < 4096) (hst : ∀ k, st k < 64) : MI l D cI cZ yX5_state wsX5_state ({ frames := 4, cells := 0, slots := 0, locals := 82 }) [.ref ax, .int x] [(ax, .inr (5, [.ref t, .ref ga, .ref la, .ref wa, .ref pa])), (t, .inr (3, [.ref te, .ref ts, .int (nI n)])), (te, .inl (cI, 16, .inl (iA en))), (ts, .inl (cI, 17, .inl (iA st)))] (fun r w => r = (gd2 (bel x (nI n)) (fwC en st n) (nI (st x.toNatClampNeg))) ∧ w = [(ax, .inr (5, [.ref t, .ref ga, .ref la, .ref wa, .ref pa])), (t, .inr (3, [.ref te, .ref ts, .int (nI n)])), (te, .inl (cI, 16, .inl (iA en))), (ts, .inl (cI, 17, .inl (iA st)))]) := by
  refine MI.of (cc := cX5_state) (maxL := 2) (ret := (some .int)) (own := RX5) (by decide) rfl rfl (Nat.le_of_ble_eq_true rfl) ?_
  intro pQ eQ s mQ args below meth cQ A X hw ls hl
  obtain ⟨⟨hx, hb, hml, hown, hts⟩, hr, hlk, hK, hN, hA⟩ := id X
  have hl : lv_has ls 2 [(0, .ref ax), (1, .int x)] := hl
  have n5 : ∀ w ∈ wsX50, w ∈ wsX5_state := by decide +kernel
  have f10 : FF args s RX5 wsX5_state 10 5 0 := ⟨_, rfl, by decide, n5, hts (.fieldLink RX5 10 "AirSteps" "text" "LAirSteps$Text;") (by decide +kernel)⟩
  refine lv_iload_n hx hb dX5_state_0 rfl (lv_at hl 1 rfl) ?_
  refine lv_aload_n hx hb dX5_state_1 rfl (lv_at hl 0 rfl) ?_
  refine x_get X hw f10 0 rfl rfl dX5_state_2 ?_
  refine x_callV (As := []) (rest := [.int x]) X hw hl.1 (c_X3_size l D cI cZ t te ts en st n ) (cwV 0 hts gX5_state_X3_size rfl rfl rfl (by decide +kernel) ⟨Nat.le_of_ble_eq_true rfl, Nat.le_of_ble_eq_true rfl⟩) [1, 2, 3] rfl rfl 0 rfl rfl rfl rfl (Nat.le_of_ble_eq_true rfl) dX5_state_5 (by decide) (fun r w1 H locs hp hw1 => ?_)
  obtain ⟨rfl, rfl⟩ := hp
  have hw : WD D A s.heap [(ax, .inr (5, [.ref t, .ref ga, .ref la, .ref wa, .ref pa])), (t, .inr (3, [.ref te, .ref ts, .int (nI n)])), (te, .inl (cI, 16, .inl (iA en))), (ts, .inl (cI, 17, .inl (iA st)))] H locs := hw1 rfl
  refine x_callS (As := [.int x, .int (nI n)]) (rest := []) X hw hl.1 (c_X5_isBelow l D cI cZ x (nI n) ) (va_cwS 2 hts gX5_state_X5_isBelow rfl rfl rfl (by decide +kernel) ⟨Nat.le_of_ble_eq_true rfl, Nat.le_of_ble_eq_true rfl⟩) [] rfl rfl rfl (Nat.le_of_ble_eq_true rfl) dX5_state_8 (by decide) (fun r w1 H locs hp hw1 => ?_)
  obtain ⟨rfl, rfl⟩ := hp
  have hw : WD D A s.heap [(ax, .inr (5, [.ref t, .ref ga, .ref la, .ref wa, .ref pa])), (t, .inr (3, [.ref te, .ref ts, .int (nI n)])), (te, .inl (cI, 16, .inl (iA en))), (ts, .inl (cI, 17, .inl (iA st)))] H locs := hw1 rfl
  refine lv_if_ne (tgt := 17) hx hb dX5_state_11 (by decide) (fun c_11 => ?_) (fun c_11 => ?_)
  · skip
    rw [q_b0] at c_11; try simp only [Bool.not_eq_false, Bool.not_eq_true] at c_11
    obtain ⟨k, hk, rfl⟩ := bel_t (by omega) c_11
    refine lv_aload_n hx hb dX5_state_17 rfl (lv_at hl 0 rfl) ?_
    refine x_get X hw f10 0 rfl rfl dX5_state_18 ?_
    refine x_callV (As := []) (rest := []) X hw hl.1 (c_X3_isSound l D cI cZ t te ts en st n (by first | assumption | omega) (by first | assumption | omega) (by first | assumption | omega)) (cwV 0 hts gX5_state_X3_isSound rfl rfl rfl (by decide +kernel) ⟨Nat.le_of_ble_eq_true rfl, Nat.le_of_ble_eq_true rfl⟩) [1, 2, 3] rfl rfl 0 rfl rfl rfl rfl (Nat.le_of_ble_eq_true rfl) dX5_state_21 (by decide) (fun r w1 H locs hp hw1 => ?_)
    obtain ⟨rfl, rfl⟩ := hp
    have hw : WD D A s.heap [(ax, .inr (5, [.ref t, .ref ga, .ref la, .ref wa, .ref pa])), (t, .inr (3, [.ref te, .ref ts, .int (nI n)])), (te, .inl (cI, 16, .inl (iA en))), (ts, .inl (cI, 17, .inl (iA st)))] H locs := hw1 rfl
    refine lv_if_ne (tgt := 30) hx hb dX5_state_24 (by decide) (fun c_24 => ?_) (fun c_24 => ?_)
    · skip
      rw [q_b0] at c_24; try simp only [Bool.not_eq_false, Bool.not_eq_true] at c_24
      have hs := of_decide_eq_true c_24
      have hn0 := fwC_pos hs
      refine lv_aload_n hx hb dX5_state_30 rfl (lv_at hl 0 rfl) ?_
      refine x_get X hw f10 0 rfl rfl dX5_state_31 ?_
      refine lv_iload_n hx hb dX5_state_34 rfl (lv_at hl 1 rfl) ?_
      refine x_callV (As := [.int (nI k)]) (rest := []) X hw hl.1 (c_X3_stateAt l D cI cZ t te ts en st n k (by first | assumption | omega) (by first | assumption | omega) (by first | assumption | omega) (by first | assumption | omega)) (cwV 1 hts gX5_state_X3_stateAt rfl rfl rfl (by decide +kernel) ⟨Nat.le_of_ble_eq_true rfl, Nat.le_of_ble_eq_true rfl⟩) [1, 2, 3] rfl rfl 0 rfl rfl rfl rfl (Nat.le_of_ble_eq_true rfl) dX5_state_35 (by decide) (fun r w1 H locs hp hw1 => ?_)
      obtain ⟨rfl, rfl⟩ := hp
      have hw : WD D A s.heap [(ax, .inr (5, [.ref t, .ref ga, .ref la, .ref wa, .ref pa])), (t, .inr (3, [.ref te, .ref ts, .int (nI n)])), (te, .inl (cI, 16, .inl (iA en))), (ts, .inl (cI, 17, .inl (iA st)))] H locs := hw1 rfl
      exact x_iret X hw (⟨(by rw [gd2_t c_11, gd1_t hs, nc k (by omega)]), rfl⟩) dX5_state_38
    · skip
      rw [q_b0] at c_24; try simp only [Bool.not_eq_false, Bool.not_eq_true] at c_24
      have hs := of_decide_eq_false c_24
      refine lv_bipush (v := (-3)) hx hb dX5_state_27 (by decide) ?_
      exact x_iret X hw (⟨(by rw [gd2_t c_11, gd1_f hs]), rfl⟩) dX5_state_29
  · skip
    rw [q_b0] at c_11; try simp only [Bool.not_eq_false, Bool.not_eq_true] at c_11
    refine lv_bipush (v := (-2)) hx hb dX5_state_14 (by decide) ?_
    exact x_iret X hw (⟨((gd2_f c_11).symm), rfl⟩) dX5_state_16
set_option maxHeartbeats 4000000 in
set_option maxRecDepth 100000 in
theorem c_X5_clash (l : Launch) (D : va_G) (cI cZ : ClassId) (ax : Nat) (t : Nat) (ga : Nat) (la : Nat) (wa : Nat) (pa : Nat) (te : Nat) (ts : Nat) (en : Nat → Nat) (st : Nat → Nat) (n : Nat) (gc : Nat) (gn : Nat) (cu : Nat → Nat) (ne : Nat → Nat) (sz : Nat) (x : Int32) (hn : n ≤ 16) (hen : ∀ k, en k < 4096) (hst : ∀ k, st k < 64) (hsz : sz ≤ 16) (hcu : ∀ k, cu k < 16) (hne : ∀ k, ne k ≤ 1000) : MI l D cI cZ yX5_clash wsX5_clash ({ frames := 6, cells := 0, slots := 0, locals := 140 }) [.ref ax, .int x] [(ax, .inr (5, [.ref t, .ref ga, .ref la, .ref wa, .ref pa])), (t, .inr (3, [.ref te, .ref ts, .int (nI n)])), (te, .inl (cI, 16, .inl (iA en))), (ts, .inl (cI, 17, .inl (iA st))), (ga, .inr (0, [.ref gc, .ref gn, .int (nI sz)])), (gc, .inl (cI, 16, .inl (iA cu))), (gn, .inl (cI, 16, .inl (iA ne)))] (fun r w => ∃ nf9 : Nat → Nat, ∃ cu9 : Nat → Nat, ∃ sz9 : Nat, (fwC en st n = -1 → x = nI 1 → FD en n cu9 sz9) ∧ (∀ k, nf9 k ≤ 1000) ∧ (∀ k, cu9 k < 16) ∧ (sz9 ≤ 16) ∧ r = (gd2 (bel x (nI 2)) (fwC en st n) (fsI (clP en st cu9 n sz9 x.toNatClampNeg) n)) ∧ w = [(ax, .inr (5, [.ref t, .ref ga, .ref la, .ref wa, .ref pa])), (t, .inr (3, [.ref te, .ref ts, .int (nI n)])), (te, .inl (cI, 16, .inl (iA en))), (ts, .inl (cI, 17, .inl (iA st))), (ga, .inr (0, [.ref gc, .ref gn, .int (nI sz9)])), (gc, .inl (cI, 16, .inl (iA cu9))), (gn, .inl (cI, 16, .inl (iA nf9)))]) := by
  refine MI.of (cc := cX5_clash) (maxL := 2) (ret := (some .int)) (own := RX5) (by decide) rfl rfl (Nat.le_of_ble_eq_true rfl) ?_
  intro pQ eQ s mQ args below meth cQ A X hw ls hl
  obtain ⟨⟨hx, hb, hml, hown, hts⟩, hr, hlk, hK, hN, hA⟩ := id X
  have hl : lv_has ls 2 [(0, .ref ax), (1, .int x)] := hl
  have n5 : ∀ w ∈ wsX50, w ∈ wsX5_clash := by decide +kernel
  have f10 : FF args s RX5 wsX5_clash 10 5 0 := ⟨_, rfl, by decide, n5, hts (.fieldLink RX5 10 "AirSteps" "text" "LAirSteps$Text;") (by decide +kernel)⟩
  refine lv_iload_n hx hb dX5_clash_0 rfl (lv_at hl 1 rfl) ?_
  refine lv_iconst (v := nI 2) hx hb dX5_clash_1 (by decide) ?_
  refine x_callS (As := [.int x, .int (nI 2)]) (rest := []) X hw hl.1 (c_X5_isBelow l D cI cZ x (nI 2) ) (va_cwS 2 hts gX5_clash_X5_isBelow rfl rfl rfl (by decide +kernel) ⟨Nat.le_of_ble_eq_true rfl, Nat.le_of_ble_eq_true rfl⟩) [] rfl rfl rfl (Nat.le_of_ble_eq_true rfl) dX5_clash_2 (by decide) (fun r w1 H locs hp hw1 => ?_)
  obtain ⟨rfl, rfl⟩ := hp
  have hw : WD D A s.heap [(ax, .inr (5, [.ref t, .ref ga, .ref la, .ref wa, .ref pa])), (t, .inr (3, [.ref te, .ref ts, .int (nI n)])), (te, .inl (cI, 16, .inl (iA en))), (ts, .inl (cI, 17, .inl (iA st))), (ga, .inr (0, [.ref gc, .ref gn, .int (nI sz)])), (gc, .inl (cI, 16, .inl (iA cu))), (gn, .inl (cI, 16, .inl (iA ne)))] H locs := hw1 rfl
  refine lv_if_ne (tgt := 11) hx hb dX5_clash_5 (by decide) (fun c_5 => ?_) (fun c_5 => ?_)
  · skip
    rw [q_b0] at c_5; try simp only [Bool.not_eq_false, Bool.not_eq_true] at c_5
    obtain ⟨w9, hw9, rfl⟩ := bel_t (by decide) c_5
    refine lv_aload_n hx hb dX5_clash_11 rfl (lv_at hl 0 rfl) ?_
    refine x_get X hw f10 0 rfl rfl dX5_clash_12 ?_
    refine x_callV (As := []) (rest := []) X hw hl.1 (c_X3_isSound l D cI cZ t te ts en st n (by first | assumption | omega) (by first | assumption | omega) (by first | assumption | omega)) (cwV 0 hts gX5_clash_X3_isSound rfl rfl rfl (by decide +kernel) ⟨Nat.le_of_ble_eq_true rfl, Nat.le_of_ble_eq_true rfl⟩) [1, 2, 3] rfl rfl 0 rfl rfl rfl rfl (Nat.le_of_ble_eq_true rfl) dX5_clash_15 (by decide) (fun r w1 H locs hp hw1 => ?_)
    obtain ⟨rfl, rfl⟩ := hp
    have hw : WD D A s.heap [(ax, .inr (5, [.ref t, .ref ga, .ref la, .ref wa, .ref pa])), (t, .inr (3, [.ref te, .ref ts, .int (nI n)])), (te, .inl (cI, 16, .inl (iA en))), (ts, .inl (cI, 17, .inl (iA st))), (ga, .inr (0, [.ref gc, .ref gn, .int (nI sz)])), (gc, .inl (cI, 16, .inl (iA cu))), (gn, .inl (cI, 16, .inl (iA ne)))] H locs := hw1 rfl
    refine lv_if_ne (tgt := 24) hx hb dX5_clash_18 (by decide) (fun c_18 => ?_) (fun c_18 => ?_)
    · skip
      rw [q_b0] at c_18; try simp only [Bool.not_eq_false, Bool.not_eq_true] at c_18
      have hs := of_decide_eq_true c_18
      have hn0 := fwC_pos hs
      refine lv_aload_n hx hb dX5_clash_24 rfl (lv_at hl 0 rfl) ?_
      refine lv_iload_n hx hb dX5_clash_25 rfl (lv_at hl 1 rfl) ?_
      refine x_callV (As := [.int (nI w9)]) (rest := []) X hw hl.1 (c_X5_firstClash l D cI cZ ax t ga la wa pa te ts en st n gc gn cu ne sz w9 (by first | assumption | omega) (by first | assumption | omega) (by first | assumption | omega) (by first | assumption | omega) (by first | assumption | omega) (hne) (by first | assumption | omega) (by first | assumption | omega)) (cwV 1 hts gX5_clash_X5_firstClash rfl rfl rfl (by decide +kernel) ⟨Nat.le_of_ble_eq_true rfl, Nat.le_of_ble_eq_true rfl⟩) [0, 1, 2, 3, 4, 5, 6] rfl rfl 0 rfl rfl rfl rfl (Nat.le_of_ble_eq_true rfl) dX5_clash_26 (by decide) (fun r w1 H locs hp hw1 => ?_)
      obtain ⟨nf2, cu2, sz2, hFD2, hnf2, hcu2, hsz2, hs12, rfl, rfl⟩ := hp
      have hw : WD D A s.heap [(ax, .inr (5, [.ref t, .ref ga, .ref la, .ref wa, .ref pa])), (t, .inr (3, [.ref te, .ref ts, .int (nI n)])), (te, .inl (cI, 16, .inl (iA en))), (ts, .inl (cI, 17, .inl (iA st))), (ga, .inr (0, [.ref gc, .ref gn, .int (nI sz2)])), (gc, .inl (cI, 16, .inl (iA cu2))), (gn, .inl (cI, 16, .inl (iA nf2)))] H locs := hw1 rfl
      exact x_iret X hw (⟨nf2, cu2, sz2, (fun _ h => hFD2 ((nI_eq (by omega) (by decide)).mp h)), (hnf2), (hcu2), (hsz2), (by rw [gd2_t c_5, gd1_t hs, nc w9 (by omega)]), rfl⟩) dX5_clash_29
    · skip
      rw [q_b0] at c_18; try simp only [Bool.not_eq_false, Bool.not_eq_true] at c_18
      have hs := of_decide_eq_false c_18
      refine lv_bipush (v := (-3)) hx hb dX5_clash_21 (by decide) ?_
      exact x_iret X hw (⟨ne, cu, sz, (fun h => absurd h hs), (hne), (hcu), (hsz), (by rw [gd2_t c_5, gd1_f hs]), rfl⟩) dX5_clash_23
  · skip
    rw [q_b0] at c_5; try simp only [Bool.not_eq_false, Bool.not_eq_true] at c_5
    refine lv_bipush (v := (-2)) hx hb dX5_clash_8 (by decide) ?_
    exact x_iret X hw (⟨ne, cu, sz, (fun _ h => by rw [h] at c_5; exact absurd c_5 (by decide)), (hne), (hcu), (hsz), ((gd2_f c_5).symm), rfl⟩) dX5_clash_10
set_option maxHeartbeats 4000000 in
set_option maxRecDepth 100000 in
theorem c_X5_clashOf (l : Launch) (D : va_G) (cI cZ : ClassId) (ax : Nat) (t : Nat) (ga : Nat) (la : Nat) (wa : Nat) (pa : Nat) (te : Nat) (ts : Nat) (en : Nat → Nat) (st : Nat → Nat) (n : Nat) (gc : Nat) (gn : Nat) (cu : Nat → Nat) (ne : Nat → Nat) (sz : Nat) (x : Int32) (hn : n ≤ 16) (hen : ∀ k, en k < 4096) (hst : ∀ k, st k < 64) (hsz : sz ≤ 16) (hcu : ∀ k, cu k < 16) (hne : ∀ k, ne k ≤ 1000) : MI l D cI cZ yX5_clashOf wsX5_clashOf ({ frames := 6, cells := 0, slots := 0, locals := 140 }) [.ref ax, .int x] [(ax, .inr (5, [.ref t, .ref ga, .ref la, .ref wa, .ref pa])), (t, .inr (3, [.ref te, .ref ts, .int (nI n)])), (te, .inl (cI, 16, .inl (iA en))), (ts, .inl (cI, 17, .inl (iA st))), (ga, .inr (0, [.ref gc, .ref gn, .int (nI sz)])), (gc, .inl (cI, 16, .inl (iA cu))), (gn, .inl (cI, 16, .inl (iA ne)))] (fun r w => ∃ nf9 : Nat → Nat, ∃ cu9 : Nat → Nat, ∃ sz9 : Nat, (fwC en st n = -1 → x = nI 1 → FD en n cu9 sz9) ∧ (∀ k, nf9 k ≤ 1000) ∧ (∀ k, cu9 k < 16) ∧ (sz9 ≤ 16) ∧ r = (gd2 (bel x (nI 2)) (fwC en st n) (clO en st cu9 n sz9 x.toNatClampNeg)) ∧ w = [(ax, .inr (5, [.ref t, .ref ga, .ref la, .ref wa, .ref pa])), (t, .inr (3, [.ref te, .ref ts, .int (nI n)])), (te, .inl (cI, 16, .inl (iA en))), (ts, .inl (cI, 17, .inl (iA st))), (ga, .inr (0, [.ref gc, .ref gn, .int (nI sz9)])), (gc, .inl (cI, 16, .inl (iA cu9))), (gn, .inl (cI, 16, .inl (iA nf9)))]) := by
  refine MI.of (cc := cX5_clashOf) (maxL := 3) (ret := (some .int)) (own := RX5) (by decide) rfl rfl (Nat.le_of_ble_eq_true rfl) ?_
  intro pQ eQ s mQ args below meth cQ A X hw ls hl
  obtain ⟨⟨hx, hb, hml, hown, hts⟩, hr, hlk, hK, hN, hA⟩ := id X
  have hl : lv_has ls 3 [(0, .ref ax), (1, .int x)] := hl
  have n5 : ∀ w ∈ wsX50, w ∈ wsX5_clashOf := by decide +kernel
  have f10 : FF args s RX5 wsX5_clashOf 10 5 0 := ⟨_, rfl, by decide, n5, hts (.fieldLink RX5 10 "AirSteps" "text" "LAirSteps$Text;") (by decide +kernel)⟩
  refine lv_iload_n hx hb dX5_clashOf_0 rfl (lv_at hl 1 rfl) ?_
  refine lv_iconst (v := nI 2) hx hb dX5_clashOf_1 (by decide) ?_
  refine x_callS (As := [.int x, .int (nI 2)]) (rest := []) X hw hl.1 (c_X5_isBelow l D cI cZ x (nI 2) ) (va_cwS 2 hts gX5_clashOf_X5_isBelow rfl rfl rfl (by decide +kernel) ⟨Nat.le_of_ble_eq_true rfl, Nat.le_of_ble_eq_true rfl⟩) [] rfl rfl rfl (Nat.le_of_ble_eq_true rfl) dX5_clashOf_2 (by decide) (fun r w1 H locs hp hw1 => ?_)
  obtain ⟨rfl, rfl⟩ := hp
  have hw : WD D A s.heap [(ax, .inr (5, [.ref t, .ref ga, .ref la, .ref wa, .ref pa])), (t, .inr (3, [.ref te, .ref ts, .int (nI n)])), (te, .inl (cI, 16, .inl (iA en))), (ts, .inl (cI, 17, .inl (iA st))), (ga, .inr (0, [.ref gc, .ref gn, .int (nI sz)])), (gc, .inl (cI, 16, .inl (iA cu))), (gn, .inl (cI, 16, .inl (iA ne)))] H locs := hw1 rfl
  refine lv_if_ne (tgt := 11) hx hb dX5_clashOf_5 (by decide) (fun c_5 => ?_) (fun c_5 => ?_)
  · skip
    rw [q_b0] at c_5; try simp only [Bool.not_eq_false, Bool.not_eq_true] at c_5
    obtain ⟨w9, hw9, rfl⟩ := bel_t (by decide) c_5
    refine lv_aload_n hx hb dX5_clashOf_11 rfl (lv_at hl 0 rfl) ?_
    refine x_get X hw f10 0 rfl rfl dX5_clashOf_12 ?_
    refine x_callV (As := []) (rest := []) X hw hl.1 (c_X3_isSound l D cI cZ t te ts en st n (by first | assumption | omega) (by first | assumption | omega) (by first | assumption | omega)) (cwV 0 hts gX5_clashOf_X3_isSound rfl rfl rfl (by decide +kernel) ⟨Nat.le_of_ble_eq_true rfl, Nat.le_of_ble_eq_true rfl⟩) [1, 2, 3] rfl rfl 0 rfl rfl rfl rfl (Nat.le_of_ble_eq_true rfl) dX5_clashOf_15 (by decide) (fun r w1 H locs hp hw1 => ?_)
    obtain ⟨rfl, rfl⟩ := hp
    have hw : WD D A s.heap [(ax, .inr (5, [.ref t, .ref ga, .ref la, .ref wa, .ref pa])), (t, .inr (3, [.ref te, .ref ts, .int (nI n)])), (te, .inl (cI, 16, .inl (iA en))), (ts, .inl (cI, 17, .inl (iA st))), (ga, .inr (0, [.ref gc, .ref gn, .int (nI sz)])), (gc, .inl (cI, 16, .inl (iA cu))), (gn, .inl (cI, 16, .inl (iA ne)))] H locs := hw1 rfl
    refine lv_if_ne (tgt := 24) hx hb dX5_clashOf_18 (by decide) (fun c_18 => ?_) (fun c_18 => ?_)
    · skip
      rw [q_b0] at c_18; try simp only [Bool.not_eq_false, Bool.not_eq_true] at c_18
      have hs := of_decide_eq_true c_18
      have hn0 := fwC_pos hs
      refine lv_aload_n hx hb dX5_clashOf_24 rfl (lv_at hl 0 rfl) ?_
      refine lv_iload_n hx hb dX5_clashOf_25 rfl (lv_at hl 1 rfl) ?_
      refine x_callV (As := [.int (nI w9)]) (rest := []) X hw hl.1 (c_X5_firstClash l D cI cZ ax t ga la wa pa te ts en st n gc gn cu ne sz w9 (by first | assumption | omega) (by first | assumption | omega) (by first | assumption | omega) (by first | assumption | omega) (by first | assumption | omega) (hne) (by first | assumption | omega) (by first | assumption | omega)) (cwV 1 hts gX5_clashOf_X5_firstClash rfl rfl rfl (by decide +kernel) ⟨Nat.le_of_ble_eq_true rfl, Nat.le_of_ble_eq_true rfl⟩) [0, 1, 2, 3, 4, 5, 6] rfl rfl 0 rfl rfl rfl rfl (Nat.le_of_ble_eq_true rfl) dX5_clashOf_26 (by decide) (fun r w1 H locs hp hw1 => ?_)
      obtain ⟨nf2, cu2, sz2, hFD2, hnf2, hcu2, hsz2, hs12, rfl, rfl⟩ := hp
      have hw : WD D A s.heap [(ax, .inr (5, [.ref t, .ref ga, .ref la, .ref wa, .ref pa])), (t, .inr (3, [.ref te, .ref ts, .int (nI n)])), (te, .inl (cI, 16, .inl (iA en))), (ts, .inl (cI, 17, .inl (iA st))), (ga, .inr (0, [.ref gc, .ref gn, .int (nI sz2)])), (gc, .inl (cI, 16, .inl (iA cu2))), (gn, .inl (cI, 16, .inl (iA nf2)))] H locs := hw1 rfl
      refine lv_istore_n (lv' := [(2, .int (fsI (clP en st cu2 n sz2 w9) n)), (0, .ref ax), (1, .int (nI w9))]) hx hb dX5_clashOf_29 rfl hl (by decide) rfl (fun ls hl => ?_)
      refine lv_iload_n hx hb dX5_clashOf_30 rfl (lv_at hl 0 rfl) ?_
      refine lv_iconst (v := (-1)) hx hb dX5_clashOf_31 (by decide) ?_
      refine lv_icmp_ne (tgt := 39) hx hb dX5_clashOf_32 (by decide) (fun c_32 => ?_) (fun c_32 => ?_)
      · skip
        obtain ⟨hk1, hk2⟩ := fsI_n (by omega) c_32
        refine lv_aload_n hx hb dX5_clashOf_39 rfl (lv_at hl 1 rfl) ?_
        refine lv_iload_n hx hb dX5_clashOf_40 rfl (lv_at hl 2 rfl) ?_
        refine lv_iload_n hx hb dX5_clashOf_41 rfl (lv_at hl 0 rfl) ?_
        refine cv_i (show fsI (clP en st cu2 n sz2 w9) n = nI (fs (clP en st cu2 n sz2 w9) n) from hk2) ?_
        refine x_callV (As := [.int (nI w9), .int (nI (fs (clP en st cu2 n sz2 w9) n))]) (rest := []) X hw hl.1 (c_X5_clashing l D cI cZ ax t ga la wa pa te ts en st n gc gn cu2 nf2 sz2 w9 (fs (clP en st cu2 n sz2 w9) n) (by first | assumption | omega) (by first | assumption | omega) (by first | assumption | omega) (hsz2) (hcu2) (hs12) (by first | assumption | omega) (hk1)) (cwV 2 hts gX5_clashOf_X5_clashing rfl rfl rfl (by decide +kernel) ⟨Nat.le_of_ble_eq_true rfl, Nat.le_of_ble_eq_true rfl⟩) [0, 1, 2, 3, 4, 5, 6] rfl rfl 0 rfl rfl rfl rfl (Nat.le_of_ble_eq_true rfl) dX5_clashOf_42 (by decide) (fun r w1 H locs hp hw1 => ?_)
        obtain ⟨rfl, rfl⟩ := hp
        have hw : WD D A s.heap [(ax, .inr (5, [.ref t, .ref ga, .ref la, .ref wa, .ref pa])), (t, .inr (3, [.ref te, .ref ts, .int (nI n)])), (te, .inl (cI, 16, .inl (iA en))), (ts, .inl (cI, 17, .inl (iA st))), (ga, .inr (0, [.ref gc, .ref gn, .int (nI sz2)])), (gc, .inl (cI, 16, .inl (iA cu2))), (gn, .inl (cI, 16, .inl (iA nf2)))] H locs := hw1 rfl
        have hc64 : cls en st cu2 n sz2 w9 (fs (clP en st cu2 n sz2 w9) n) < 64 := clsE_lt _ _ (hen _)
        refine x_callS (As := [.int (nI (cls en st cu2 n sz2 w9 (fs (clP en st cu2 n sz2 w9) n)))]) (rest := []) X hw hl.1 (c_X5_leastOf l D cI cZ (cls en st cu2 n sz2 w9 (fs (clP en st cu2 n sz2 w9) n)) (by first | assumption | omega)) (va_cwS 1 hts gX5_clashOf_X5_leastOf rfl rfl rfl (by decide +kernel) ⟨Nat.le_of_ble_eq_true rfl, Nat.le_of_ble_eq_true rfl⟩) [] rfl rfl rfl (Nat.le_of_ble_eq_true rfl) dX5_clashOf_45 (by decide) (fun r w1 H locs hp hw1 => ?_)
        obtain ⟨rfl, rfl⟩ := hp
        have hw : WD D A s.heap [(ax, .inr (5, [.ref t, .ref ga, .ref la, .ref wa, .ref pa])), (t, .inr (3, [.ref te, .ref ts, .int (nI n)])), (te, .inl (cI, 16, .inl (iA en))), (ts, .inl (cI, 17, .inl (iA st))), (ga, .inr (0, [.ref gc, .ref gn, .int (nI sz2)])), (gc, .inl (cI, 16, .inl (iA cu2))), (gn, .inl (cI, 16, .inl (iA nf2)))] H locs := hw1 rfl
        exact x_iret X hw (⟨nf2, cu2, sz2, (fun _ h => hFD2 ((nI_eq (by omega) (by decide)).mp h)), (hnf2), (hcu2), (hsz2), (by rw [gd2_t c_5, gd1_t hs, nc w9 (by omega)]; unfold clO; first | (rw [if_pos hk1]; done) | (rw [if_neg (fsI_m (by omega) c_32)]; done)), rfl⟩) dX5_clashOf_48
      · skip
        refine lv_iconst (v := (-1)) hx hb dX5_clashOf_35 (by decide) ?_
        refine lv_goto (tgt := 48) hx hb dX5_clashOf_36 (by decide) ?_
        exact x_iret X hw (⟨nf2, cu2, sz2, (fun _ h => hFD2 ((nI_eq (by omega) (by decide)).mp h)), (hnf2), (hcu2), (hsz2), (by rw [gd2_t c_5, gd1_t hs, nc w9 (by omega)]; unfold clO; first | (rw [if_pos hk1]; done) | (rw [if_neg (fsI_m (by omega) c_32)]; done)), rfl⟩) dX5_clashOf_48
    · skip
      rw [q_b0] at c_18; try simp only [Bool.not_eq_false, Bool.not_eq_true] at c_18
      have hs := of_decide_eq_false c_18
      refine lv_bipush (v := (-3)) hx hb dX5_clashOf_21 (by decide) ?_
      exact x_iret X hw (⟨ne, cu, sz, (fun h => absurd h hs), (hne), (hcu), (hsz), (by rw [gd2_t c_5, gd1_f hs]), rfl⟩) dX5_clashOf_23
  · skip
    rw [q_b0] at c_5; try simp only [Bool.not_eq_false, Bool.not_eq_true] at c_5
    refine lv_bipush (v := (-2)) hx hb dX5_clashOf_8 (by decide) ?_
    exact x_iret X hw (⟨ne, cu, sz, (fun _ h => by rw [h] at c_5; exact absurd c_5 (by decide)), (hne), (hcu), (hsz), ((gd2_f c_5).symm), rfl⟩) dX5_clashOf_10
set_option maxHeartbeats 4000000 in
set_option maxRecDepth 100000 in
theorem c_X5_groups (l : Launch) (D : va_G) (cI cZ : ClassId) (ax : Nat) (t : Nat) (ga : Nat) (la : Nat) (wa : Nat) (pa : Nat) (te : Nat) (ts : Nat) (en : Nat → Nat) (st : Nat → Nat) (n : Nat) (gc : Nat) (gn : Nat) (cu : Nat → Nat) (ne : Nat → Nat) (sz : Nat) (hn : n ≤ 16) (hen : ∀ k, en k < 4096) (hst : ∀ k, st k < 64) (hsz : sz ≤ 16) (hcu : ∀ k, cu k < 16) (hne : ∀ k, ne k ≤ 1000) : MI l D cI cZ yX5_groups wsX5_groups ({ frames := 5, cells := 0, slots := 0, locals := 118 }) [.ref ax] [(ax, .inr (5, [.ref t, .ref ga, .ref la, .ref wa, .ref pa])), (t, .inr (3, [.ref te, .ref ts, .int (nI n)])), (te, .inl (cI, 16, .inl (iA en))), (ts, .inl (cI, 17, .inl (iA st))), (ga, .inr (0, [.ref gc, .ref gn, .int (nI sz)])), (gc, .inl (cI, 16, .inl (iA cu))), (gn, .inl (cI, 16, .inl (iA ne)))] (fun r w => ∃ nf9 : Nat → Nat, ∃ cu9 : Nat → Nat, ∃ sz9 : Nat, (fwC en st n = -1 → FD en n cu9 sz9) ∧ (∀ k, nf9 k ≤ 1000) ∧ (∀ k, cu9 k < 16) ∧ (sz9 ≤ 16) ∧ r = (gd1 (fwC en st n) (nI sz9)) ∧ w = [(ax, .inr (5, [.ref t, .ref ga, .ref la, .ref wa, .ref pa])), (t, .inr (3, [.ref te, .ref ts, .int (nI n)])), (te, .inl (cI, 16, .inl (iA en))), (ts, .inl (cI, 17, .inl (iA st))), (ga, .inr (0, [.ref gc, .ref gn, .int (nI sz9)])), (gc, .inl (cI, 16, .inl (iA cu9))), (gn, .inl (cI, 16, .inl (iA nf9)))]) := by
  refine MI.of (cc := cX5_groups) (maxL := 1) (ret := (some .int)) (own := RX5) (by decide) rfl rfl (Nat.le_of_ble_eq_true rfl) ?_
  intro pQ eQ s mQ args below meth cQ A X hw ls hl
  obtain ⟨⟨hx, hb, hml, hown, hts⟩, hr, hlk, hK, hN, hA⟩ := id X
  have hl : lv_has ls 1 [(0, .ref ax)] := hl
  have n5 : ∀ w ∈ wsX50, w ∈ wsX5_groups := by decide +kernel
  have f10 : FF args s RX5 wsX5_groups 10 5 0 := ⟨_, rfl, by decide, n5, hts (.fieldLink RX5 10 "AirSteps" "text" "LAirSteps$Text;") (by decide +kernel)⟩
  have f19 : FF args s RX5 wsX5_groups 19 5 1 := ⟨_, rfl, by decide, n5, hts (.fieldLink RX5 19 "AirSteps" "rows" "LAirSteps$Groups;") (by decide +kernel)⟩
  refine lv_aload_n hx hb dX5_groups_0 rfl (lv_at hl 0 rfl) ?_
  refine x_get X hw f10 0 rfl rfl dX5_groups_1 ?_
  refine x_callV (As := []) (rest := []) X hw hl.1 (c_X3_isSound l D cI cZ t te ts en st n (by first | assumption | omega) (by first | assumption | omega) (by first | assumption | omega)) (cwV 0 hts gX5_groups_X3_isSound rfl rfl rfl (by decide +kernel) ⟨Nat.le_of_ble_eq_true rfl, Nat.le_of_ble_eq_true rfl⟩) [1, 2, 3] rfl rfl 0 rfl rfl rfl rfl (Nat.le_of_ble_eq_true rfl) dX5_groups_4 (by decide) (fun r w1 H locs hp hw1 => ?_)
  obtain ⟨rfl, rfl⟩ := hp
  have hw : WD D A s.heap [(ax, .inr (5, [.ref t, .ref ga, .ref la, .ref wa, .ref pa])), (t, .inr (3, [.ref te, .ref ts, .int (nI n)])), (te, .inl (cI, 16, .inl (iA en))), (ts, .inl (cI, 17, .inl (iA st))), (ga, .inr (0, [.ref gc, .ref gn, .int (nI sz)])), (gc, .inl (cI, 16, .inl (iA cu))), (gn, .inl (cI, 16, .inl (iA ne)))] H locs := hw1 rfl
  refine lv_if_ne (tgt := 13) hx hb dX5_groups_7 (by decide) (fun c_7 => ?_) (fun c_7 => ?_)
  · skip
    rw [q_b0] at c_7; try simp only [Bool.not_eq_false, Bool.not_eq_true] at c_7
    have hs := of_decide_eq_true c_7
    have hn0 := fwC_pos hs
    refine lv_aload_n hx hb dX5_groups_13 rfl (lv_at hl 0 rfl) ?_
    refine x_get X hw f19 0 rfl rfl dX5_groups_14 ?_
    refine lv_aload_n hx hb dX5_groups_17 rfl (lv_at hl 0 rfl) ?_
    refine x_get X hw f10 0 rfl rfl dX5_groups_18 ?_
    refine x_callVv (As := [.ref t]) (rest := []) X hw hl.1 (c_X0_find l D cI cZ ga gc gn cu ne sz t te ts en st n (by first | assumption | omega) (by first | assumption | omega) (by first | assumption | omega) (by first | assumption | omega) (by first | assumption | omega) (by first | assumption | omega)) (cwV 1 hts gX5_groups_X0_find rfl rfl rfl (by decide +kernel) ⟨Nat.le_of_ble_eq_true rfl, Nat.le_of_ble_eq_true rfl⟩) [4, 5, 6, 1, 2, 3] rfl rfl 0 rfl rfl rfl rfl (Nat.le_of_ble_eq_true rfl) dX5_groups_21 (by decide) (fun w1 H locs hp hw1 => ?_)
    obtain ⟨nf2, cu2, sz2, hFD2, hnf2, hcu2, hsz2, hs12, rfl⟩ := hp
    have hw : WD D A s.heap [(ax, .inr (5, [.ref t, .ref ga, .ref la, .ref wa, .ref pa])), (t, .inr (3, [.ref te, .ref ts, .int (nI n)])), (te, .inl (cI, 16, .inl (iA en))), (ts, .inl (cI, 17, .inl (iA st))), (ga, .inr (0, [.ref gc, .ref gn, .int (nI sz2)])), (gc, .inl (cI, 16, .inl (iA cu2))), (gn, .inl (cI, 16, .inl (iA nf2)))] H locs := hw1 rfl
    refine lv_aload_n hx hb dX5_groups_24 rfl (lv_at hl 0 rfl) ?_
    refine x_get X hw f19 0 rfl rfl dX5_groups_25 ?_
    refine x_callV (As := []) (rest := []) X hw hl.1 (c_X0_size l D cI cZ ga gc gn cu2 nf2 sz2 ) (cwV 0 hts gX5_groups_X0_size rfl rfl rfl (by decide +kernel) ⟨Nat.le_of_ble_eq_true rfl, Nat.le_of_ble_eq_true rfl⟩) [4, 5, 6] rfl rfl 0 rfl rfl rfl rfl (Nat.le_of_ble_eq_true rfl) dX5_groups_28 (by decide) (fun r w1 H locs hp hw1 => ?_)
    obtain ⟨rfl, rfl⟩ := hp
    have hw : WD D A s.heap [(ax, .inr (5, [.ref t, .ref ga, .ref la, .ref wa, .ref pa])), (t, .inr (3, [.ref te, .ref ts, .int (nI n)])), (te, .inl (cI, 16, .inl (iA en))), (ts, .inl (cI, 17, .inl (iA st))), (ga, .inr (0, [.ref gc, .ref gn, .int (nI sz2)])), (gc, .inl (cI, 16, .inl (iA cu2))), (gn, .inl (cI, 16, .inl (iA nf2)))] H locs := hw1 rfl
    exact x_iret X hw (⟨nf2, cu2, sz2, (fun _ => hFD2), (hnf2), (hcu2), (hsz2), ((gd1_t hs).symm), rfl⟩) dX5_groups_31
  · skip
    rw [q_b0] at c_7; try simp only [Bool.not_eq_false, Bool.not_eq_true] at c_7
    have hs := of_decide_eq_false c_7
    refine lv_bipush (v := (-3)) hx hb dX5_groups_10 (by decide) ?_
    exact x_iret X hw (⟨ne, cu, sz, (fun h => absurd h hs), (hne), (hcu), (hsz), ((gd1_f hs).symm), rfl⟩) dX5_groups_12
set_option maxHeartbeats 4000000 in
set_option maxRecDepth 100000 in
theorem c_X5_cut (l : Launch) (D : va_G) (cI cZ : ClassId) (ax : Nat) (t : Nat) (ga : Nat) (la : Nat) (wa : Nat) (pa : Nat) (te : Nat) (ts : Nat) (en : Nat → Nat) (st : Nat → Nat) (n : Nat) (gc : Nat) (gn : Nat) (cu : Nat → Nat) (ne : Nat → Nat) (sz : Nat) (x : Int32) (hn : n ≤ 16) (hen : ∀ k, en k < 4096) (hst : ∀ k, st k < 64) (hsz : sz ≤ 16) (hcu : ∀ k, cu k < 16) (hne : ∀ k, ne k ≤ 1000) : MI l D cI cZ yX5_cut wsX5_cut ({ frames := 5, cells := 0, slots := 0, locals := 118 }) [.ref ax, .int x] [(ax, .inr (5, [.ref t, .ref ga, .ref la, .ref wa, .ref pa])), (t, .inr (3, [.ref te, .ref ts, .int (nI n)])), (te, .inl (cI, 16, .inl (iA en))), (ts, .inl (cI, 17, .inl (iA st))), (ga, .inr (0, [.ref gc, .ref gn, .int (nI sz)])), (gc, .inl (cI, 16, .inl (iA cu))), (gn, .inl (cI, 16, .inl (iA ne)))] (fun r w => ∃ nf9 : Nat → Nat, ∃ cu9 : Nat → Nat, ∃ sz9 : Nat, (¬ x < 0 → fwC en st n = -1 → FD en n cu9 sz9) ∧ (∀ k, nf9 k ≤ 1000) ∧ (∀ k, cu9 k < 16) ∧ (sz9 ≤ 16) ∧ r = (if x < 0 then -2 else gd1 (fwC en st n) (if nI sz9 ≤ x then -2 else nI (cu9 x.toNatClampNeg))) ∧ w = [(ax, .inr (5, [.ref t, .ref ga, .ref la, .ref wa, .ref pa])), (t, .inr (3, [.ref te, .ref ts, .int (nI n)])), (te, .inl (cI, 16, .inl (iA en))), (ts, .inl (cI, 17, .inl (iA st))), (ga, .inr (0, [.ref gc, .ref gn, .int (nI sz9)])), (gc, .inl (cI, 16, .inl (iA cu9))), (gn, .inl (cI, 16, .inl (iA nf9)))]) := by
  refine MI.of (cc := cX5_cut) (maxL := 2) (ret := (some .int)) (own := RX5) (by decide) rfl rfl (Nat.le_of_ble_eq_true rfl) ?_
  intro pQ eQ s mQ args below meth cQ A X hw ls hl
  obtain ⟨⟨hx, hb, hml, hown, hts⟩, hr, hlk, hK, hN, hA⟩ := id X
  have hl : lv_has ls 2 [(0, .ref ax), (1, .int x)] := hl
  have n5 : ∀ w ∈ wsX50, w ∈ wsX5_cut := by decide +kernel
  have f10 : FF args s RX5 wsX5_cut 10 5 0 := ⟨_, rfl, by decide, n5, hts (.fieldLink RX5 10 "AirSteps" "text" "LAirSteps$Text;") (by decide +kernel)⟩
  have f19 : FF args s RX5 wsX5_cut 19 5 1 := ⟨_, rfl, by decide, n5, hts (.fieldLink RX5 19 "AirSteps" "rows" "LAirSteps$Groups;") (by decide +kernel)⟩
  refine lv_iload_n hx hb dX5_cut_0 rfl (lv_at hl 1 rfl) ?_
  refine lv_if_ge (tgt := 7) hx hb dX5_cut_1 (by decide) (fun c_1 => ?_) (fun c_1 => ?_)
  · skip
    have c_1 : ¬ x < 0 := Int32.not_lt.mpr c_1
    obtain ⟨k, hk, rfl⟩ := nI_of c_1
    refine lv_aload_n hx hb dX5_cut_7 rfl (lv_at hl 0 rfl) ?_
    refine x_get X hw f10 0 rfl rfl dX5_cut_8 ?_
    refine x_callV (As := []) (rest := []) X hw hl.1 (c_X3_isSound l D cI cZ t te ts en st n (by first | assumption | omega) (by first | assumption | omega) (by first | assumption | omega)) (cwV 0 hts gX5_cut_X3_isSound rfl rfl rfl (by decide +kernel) ⟨Nat.le_of_ble_eq_true rfl, Nat.le_of_ble_eq_true rfl⟩) [1, 2, 3] rfl rfl 0 rfl rfl rfl rfl (Nat.le_of_ble_eq_true rfl) dX5_cut_11 (by decide) (fun r w1 H locs hp hw1 => ?_)
    obtain ⟨rfl, rfl⟩ := hp
    have hw : WD D A s.heap [(ax, .inr (5, [.ref t, .ref ga, .ref la, .ref wa, .ref pa])), (t, .inr (3, [.ref te, .ref ts, .int (nI n)])), (te, .inl (cI, 16, .inl (iA en))), (ts, .inl (cI, 17, .inl (iA st))), (ga, .inr (0, [.ref gc, .ref gn, .int (nI sz)])), (gc, .inl (cI, 16, .inl (iA cu))), (gn, .inl (cI, 16, .inl (iA ne)))] H locs := hw1 rfl
    refine lv_if_ne (tgt := 20) hx hb dX5_cut_14 (by decide) (fun c_14 => ?_) (fun c_14 => ?_)
    · skip
      rw [q_b0] at c_14; try simp only [Bool.not_eq_false, Bool.not_eq_true] at c_14
      have hs := of_decide_eq_true c_14
      have hn0 := fwC_pos hs
      refine lv_aload_n hx hb dX5_cut_20 rfl (lv_at hl 0 rfl) ?_
      refine x_get X hw f19 0 rfl rfl dX5_cut_21 ?_
      refine lv_aload_n hx hb dX5_cut_24 rfl (lv_at hl 0 rfl) ?_
      refine x_get X hw f10 0 rfl rfl dX5_cut_25 ?_
      refine x_callVv (As := [.ref t]) (rest := []) X hw hl.1 (c_X0_find l D cI cZ ga gc gn cu ne sz t te ts en st n (by first | assumption | omega) (by first | assumption | omega) (by first | assumption | omega) (by first | assumption | omega) (by first | assumption | omega) (by first | assumption | omega)) (cwV 1 hts gX5_cut_X0_find rfl rfl rfl (by decide +kernel) ⟨Nat.le_of_ble_eq_true rfl, Nat.le_of_ble_eq_true rfl⟩) [4, 5, 6, 1, 2, 3] rfl rfl 0 rfl rfl rfl rfl (Nat.le_of_ble_eq_true rfl) dX5_cut_28 (by decide) (fun w1 H locs hp hw1 => ?_)
      obtain ⟨nf2, cu2, sz2, hFD2, hnf2, hcu2, hsz2, hs12, rfl⟩ := hp
      have hw : WD D A s.heap [(ax, .inr (5, [.ref t, .ref ga, .ref la, .ref wa, .ref pa])), (t, .inr (3, [.ref te, .ref ts, .int (nI n)])), (te, .inl (cI, 16, .inl (iA en))), (ts, .inl (cI, 17, .inl (iA st))), (ga, .inr (0, [.ref gc, .ref gn, .int (nI sz2)])), (gc, .inl (cI, 16, .inl (iA cu2))), (gn, .inl (cI, 16, .inl (iA nf2)))] H locs := hw1 rfl
      refine lv_iload_n hx hb dX5_cut_31 rfl (lv_at hl 1 rfl) ?_
      refine lv_aload_n hx hb dX5_cut_32 rfl (lv_at hl 0 rfl) ?_
      refine x_get X hw f19 0 rfl rfl dX5_cut_33 ?_
      refine x_callV (As := []) (rest := [.int (nI k)]) X hw hl.1 (c_X0_size l D cI cZ ga gc gn cu2 nf2 sz2 ) (cwV 0 hts gX5_cut_X0_size rfl rfl rfl (by decide +kernel) ⟨Nat.le_of_ble_eq_true rfl, Nat.le_of_ble_eq_true rfl⟩) [4, 5, 6] rfl rfl 0 rfl rfl rfl rfl (Nat.le_of_ble_eq_true rfl) dX5_cut_36 (by decide) (fun r w1 H locs hp hw1 => ?_)
      obtain ⟨rfl, rfl⟩ := hp
      have hw : WD D A s.heap [(ax, .inr (5, [.ref t, .ref ga, .ref la, .ref wa, .ref pa])), (t, .inr (3, [.ref te, .ref ts, .int (nI n)])), (te, .inl (cI, 16, .inl (iA en))), (ts, .inl (cI, 17, .inl (iA st))), (ga, .inr (0, [.ref gc, .ref gn, .int (nI sz2)])), (gc, .inl (cI, 16, .inl (iA cu2))), (gn, .inl (cI, 16, .inl (iA nf2)))] H locs := hw1 rfl
      refine lv_icmp_ge (tgt := 53) hx hb dX5_cut_39 (by decide) (fun c_39 => ?_) (fun c_39 => ?_)
      · skip
        rw [nI_leI (by omega) (by omega)] at c_39
        refine lv_bipush (v := (-2)) hx hb dX5_cut_53 (by decide) ?_
        exact x_iret X hw (⟨nf2, cu2, sz2, (fun _ _ => hFD2), (hnf2), (hcu2), (hsz2), (by rw [if_neg c_1, gd1_t hs]; first | (rw [if_pos ((nI_leI (by omega) (by omega)).mpr c_39)]; done) | (rw [if_neg (fun h => c_39 ((nI_leI (by omega) (by omega)).mp h)), nc k (by omega)]; done)), rfl⟩) dX5_cut_55
      · skip
        rw [nI_leI (by omega) (by omega)] at c_39
        refine lv_aload_n hx hb dX5_cut_42 rfl (lv_at hl 0 rfl) ?_
        refine x_get X hw f19 0 rfl rfl dX5_cut_43 ?_
        refine lv_iload_n hx hb dX5_cut_46 rfl (lv_at hl 1 rfl) ?_
        refine x_callV (As := [.int (nI k)]) (rest := []) X hw hl.1 (c_X0_cutAt l D cI cZ ga gc gn cu2 nf2 sz2 k (by first | assumption | omega) (by first | assumption | omega)) (cwV 1 hts gX5_cut_X0_cutAt rfl rfl rfl (by decide +kernel) ⟨Nat.le_of_ble_eq_true rfl, Nat.le_of_ble_eq_true rfl⟩) [4, 5, 6] rfl rfl 0 rfl rfl rfl rfl (Nat.le_of_ble_eq_true rfl) dX5_cut_47 (by decide) (fun r w1 H locs hp hw1 => ?_)
        obtain ⟨rfl, rfl⟩ := hp
        have hw : WD D A s.heap [(ax, .inr (5, [.ref t, .ref ga, .ref la, .ref wa, .ref pa])), (t, .inr (3, [.ref te, .ref ts, .int (nI n)])), (te, .inl (cI, 16, .inl (iA en))), (ts, .inl (cI, 17, .inl (iA st))), (ga, .inr (0, [.ref gc, .ref gn, .int (nI sz2)])), (gc, .inl (cI, 16, .inl (iA cu2))), (gn, .inl (cI, 16, .inl (iA nf2)))] H locs := hw1 rfl
        refine lv_goto (tgt := 55) hx hb dX5_cut_50 (by decide) ?_
        exact x_iret X hw (⟨nf2, cu2, sz2, (fun _ _ => hFD2), (hnf2), (hcu2), (hsz2), (by rw [if_neg c_1, gd1_t hs]; first | (rw [if_pos ((nI_leI (by omega) (by omega)).mpr c_39)]; done) | (rw [if_neg (fun h => c_39 ((nI_leI (by omega) (by omega)).mp h)), nc k (by omega)]; done)), rfl⟩) dX5_cut_55
    · skip
      rw [q_b0] at c_14; try simp only [Bool.not_eq_false, Bool.not_eq_true] at c_14
      have hs := of_decide_eq_false c_14
      refine lv_bipush (v := (-3)) hx hb dX5_cut_17 (by decide) ?_
      exact x_iret X hw (⟨ne, cu, sz, (fun _ h => absurd h hs), (hne), (hcu), (hsz), (by rw [if_neg c_1, gd1_f hs]), rfl⟩) dX5_cut_19
  · skip
    have c_1 : x < 0 := Int32.not_le.mp c_1
    refine lv_bipush (v := (-2)) hx hb dX5_cut_4 (by decide) ?_
    exact x_iret X hw (⟨ne, cu, sz, (fun h => absurd c_1 h), (hne), (hcu), (hsz), ((if_pos c_1).symm), rfl⟩) dX5_cut_6
set_option maxHeartbeats 4000000 in
set_option maxRecDepth 100000 in
theorem c_X5_memories (l : Launch) (D : va_G) (cI cZ : ClassId) (ax : Nat) (t : Nat) (ga : Nat) (la : Nat) (wa : Nat) (pa : Nat) (te : Nat) (ts : Nat) (en : Nat → Nat) (st : Nat → Nat) (n : Nat) (hn : n ≤ 16) (hen : ∀ k, en k < 4096) (hst : ∀ k, st k < 64) : MI l D cI cZ yX5_memories wsX5_memories ({ frames := 4, cells := 0, slots := 0, locals := 82 }) [.ref ax] [(ax, .inr (5, [.ref t, .ref ga, .ref la, .ref wa, .ref pa])), (t, .inr (3, [.ref te, .ref ts, .int (nI n)])), (te, .inl (cI, 16, .inl (iA en))), (ts, .inl (cI, 17, .inl (iA st)))] (fun r w => r = (gd1 (fwC en st n) (nI (memN (mal st n n)))) ∧ w = [(ax, .inr (5, [.ref t, .ref ga, .ref la, .ref wa, .ref pa])), (t, .inr (3, [.ref te, .ref ts, .int (nI n)])), (te, .inl (cI, 16, .inl (iA en))), (ts, .inl (cI, 17, .inl (iA st)))]) := by
  refine MI.of (cc := cX5_memories) (maxL := 3) (ret := (some .int)) (own := RX5) (by decide) rfl rfl (Nat.le_of_ble_eq_true rfl) ?_
  intro pQ eQ s mQ args below meth cQ A X hw ls hl
  obtain ⟨⟨hx, hb, hml, hown, hts⟩, hr, hlk, hK, hN, hA⟩ := id X
  have hl : lv_has ls 3 [(0, .ref ax)] := hl
  have n5 : ∀ w ∈ wsX50, w ∈ wsX5_memories := by decide +kernel
  have f10 : FF args s RX5 wsX5_memories 10 5 0 := ⟨_, rfl, by decide, n5, hts (.fieldLink RX5 10 "AirSteps" "text" "LAirSteps$Text;") (by decide +kernel)⟩
  refine lv_aload_n hx hb dX5_memories_0 rfl (lv_at hl 0 rfl) ?_
  refine x_get X hw f10 0 rfl rfl dX5_memories_1 ?_
  refine x_callV (As := []) (rest := []) X hw hl.1 (c_X3_isSound l D cI cZ t te ts en st n (by first | assumption | omega) (by first | assumption | omega) (by first | assumption | omega)) (cwV 0 hts gX5_memories_X3_isSound rfl rfl rfl (by decide +kernel) ⟨Nat.le_of_ble_eq_true rfl, Nat.le_of_ble_eq_true rfl⟩) [1, 2, 3] rfl rfl 0 rfl rfl rfl rfl (Nat.le_of_ble_eq_true rfl) dX5_memories_4 (by decide) (fun r w1 H locs hp hw1 => ?_)
  obtain ⟨rfl, rfl⟩ := hp
  have hw : WD D A s.heap [(ax, .inr (5, [.ref t, .ref ga, .ref la, .ref wa, .ref pa])), (t, .inr (3, [.ref te, .ref ts, .int (nI n)])), (te, .inl (cI, 16, .inl (iA en))), (ts, .inl (cI, 17, .inl (iA st)))] H locs := hw1 rfl
  refine lv_if_ne (tgt := 13) hx hb dX5_memories_7 (by decide) (fun c_7 => ?_) (fun c_7 => ?_)
  · skip
    rw [q_b0] at c_7; try simp only [Bool.not_eq_false, Bool.not_eq_true] at c_7
    have hs := of_decide_eq_true c_7
    have hn0 := fwC_pos hs
    refine lv_aload_n hx hb dX5_memories_13 rfl (lv_at hl 0 rfl) ?_
    refine x_get X hw f10 0 rfl rfl dX5_memories_14 ?_
    refine x_callV (As := []) (rest := []) X hw hl.1 (c_X3_mostAlike l D cI cZ t te ts en st n (by first | assumption | omega) (by first | assumption | omega) (by first | assumption | omega)) (cwV 0 hts gX5_memories_X3_mostAlike rfl rfl rfl (by decide +kernel) ⟨Nat.le_of_ble_eq_true rfl, Nat.le_of_ble_eq_true rfl⟩) [1, 2, 3] rfl rfl 0 rfl rfl rfl rfl (Nat.le_of_ble_eq_true rfl) dX5_memories_17 (by decide) (fun r w1 H locs hp hw1 => ?_)
    obtain ⟨rfl, rfl⟩ := hp
    have hw : WD D A s.heap [(ax, .inr (5, [.ref t, .ref ga, .ref la, .ref wa, .ref pa])), (t, .inr (3, [.ref te, .ref ts, .int (nI n)])), (te, .inl (cI, 16, .inl (iA en))), (ts, .inl (cI, 17, .inl (iA st)))] H locs := hw1 rfl
    have hml9 := mal_le st n n
    refine lv_istore_n (lv' := [(1, .int (nI (mal st n n))), (0, .ref ax)]) hx hb dX5_memories_20 rfl hl (by decide) rfl (fun ls hl => ?_)
    refine lv_iconst (v := nI 0) hx hb dX5_memories_21 (by decide) ?_
    refine lv_istore_n (lv' := [(2, .int (nI 0)), (1, .int (nI (mal st n n))), (0, .ref ax)]) hx hb dX5_memories_22 rfl hl (by decide) rfl (fun ls hl => ?_)
    refine wl (α := Nat) (nL := 3) (fun aQ => 16 - aQ) (fun aQ => (aQ ≤ 16) ∧ (∀ j, j < aQ → decide (¬ 1 <<< j < mal st n n) = false)) (fun aQ => [(ax, .inr (5, [.ref t, .ref ga, .ref la, .ref wa, .ref pa])), (t, .inr (3, [.ref te, .ref ts, .int (nI n)])), (te, .inl (cI, 16, .inl (iA en))), (ts, .inl (cI, 17, .inl (iA st)))]) (fun aQ => [(2, .int (nI aQ)), (1, .int (nI (mal st n n))), (0, .ref ax)]) ?_ 0 ⟨(show 0 ≤ 16 from by omega), (show ∀ j, j < 0 → decide (¬ 1 <<< j < mal st n n) = false from fun j hj => absurd hj (Nat.not_lt_zero j))⟩ _ _ _ hw (lv_sub hl [0, 1, 2] rfl)
    rintro i ⟨hi, hq⟩ H locs ls hw hl ih_23
    have hi : i ≤ 16 := hi
    have hq : ∀ j, j < i → decide (¬ 1 <<< j < mal st n n) = false := hq
    have hw : WD D A s.heap [(ax, .inr (5, [.ref t, .ref ga, .ref la, .ref wa, .ref pa])), (t, .inr (3, [.ref te, .ref ts, .int (nI n)])), (te, .inl (cI, 16, .inl (iA en))), (ts, .inl (cI, 17, .inl (iA st)))] H locs := hw
    have hl : lv_has ls 3 [(2, .int (nI i)), (1, .int (nI (mal st n n))), (0, .ref ax)] := hl
    refine lv_iload_n hx hb dX5_memories_23 rfl (lv_at hl 0 rfl) ?_
    refine lv_bipush (v := nI 16) hx hb dX5_memories_24 (by decide) ?_
    refine lv_icmp_ge (tgt := 42) hx hb dX5_memories_26 (by decide) (fun c_26 => ?_) (fun c_26 => ?_)
    · skip
      rw [nI_leI (by omega) (by omega)] at c_26
      refine lv_iload_n hx hb dX5_memories_42 rfl (lv_at hl 0 rfl) ?_
      exact x_iret X hw (⟨(by rw [gd1_t hs]; refine congrArg nI (Eq.symm ?_); unfold memN; refine fs_eq (by omega) hq ?_; first | (left; omega) | (right; simp; omega)), rfl⟩) dX5_memories_43
    · skip
      rw [nI_leI (by omega) (by omega)] at c_26
      refine lv_iconst (v := nI 1) hx hb dX5_memories_29 (by decide) ?_
      refine lv_iload_n hx hb dX5_memories_30 rfl (lv_at hl 0 rfl) ?_
      refine lv_ishl hx hb dX5_memories_31 ?_
      refine cv_i (show (nI 1) <<< (nI i &&& 31) = nI (1 <<< i) from q_shl 1 i (by first | omega | assumption)) ?_
      refine lv_iload_n hx hb dX5_memories_32 rfl (lv_at hl 1 rfl) ?_
      refine lv_icmp_ge (tgt := 42) hx hb dX5_memories_33 (by decide) (fun c_33 => ?_) (fun c_33 => ?_)
      · skip
        rw [nI_leI (by omega) (sh_lt (by omega))] at c_33
        refine lv_iload_n hx hb dX5_memories_42 rfl (lv_at hl 0 rfl) ?_
        exact x_iret X hw (⟨(by rw [gd1_t hs]; refine congrArg nI (Eq.symm ?_); unfold memN; refine fs_eq (by omega) hq ?_; first | (left; omega) | (right; simp; omega)), rfl⟩) dX5_memories_43
      · skip
        rw [nI_leI (by omega) (sh_lt (by omega))] at c_33
        refine lv_iinc (v := nI (i + 1)) (lv' := [(2, .int (nI (i + 1))), (1, .int (nI (mal st n n))), (0, .ref ax)]) hx hb dX5_memories_36 hl (k := 0) rfl (nI_add i 1) (by decide) rfl (fun ls hl => ?_)
        refine lv_goto (tgt := 23) hx hb dX5_memories_39 (by decide) ?_
        exact ih_23 (i + 1) (by show 16 - (i + 1) < 16 - i; omega) ⟨(show (i + 1) ≤ 16 from by omega), (show ∀ j, j < (i + 1) → decide (¬ 1 <<< j < mal st n n) = false from lt_snoc (P := fun b => decide (¬ 1 <<< b < mal st n n)) hq (by simp; omega))⟩ _ _ _ hw (lv_sub hl [0, 1, 2] rfl)
  · skip
    rw [q_b0] at c_7; try simp only [Bool.not_eq_false, Bool.not_eq_true] at c_7
    have hs := of_decide_eq_false c_7
    refine lv_bipush (v := (-3)) hx hb dX5_memories_10 (by decide) ?_
    exact x_iret X hw (⟨((gd1_f hs).symm), rfl⟩) dX5_memories_12
set_option maxHeartbeats 4000000 in
set_option maxRecDepth 100000 in
theorem c_X5_pace (l : Launch) (D : va_G) (cI cZ : ClassId) (ax : Nat) (t : Nat) (ga : Nat) (la : Nat) (wa : Nat) (pa : Nat) (pl : Nat) (pm : Nat) (le : Nat → Nat) (mo : Nat → Nat) (x : Int32) (o : Bool) (lo : Int32) (hi : Int32) (hle : ∀ k, le k < 101) (hmo : ∀ k, mo k < 101) : MI l D cI cZ yX5_pace wsX5_pace ({ frames := 2, cells := 0, slots := 0, locals := 44 }) [.ref ax, .int x, .int (bI o), .int lo, .int hi] [(ax, .inr (5, [.ref t, .ref ga, .ref la, .ref wa, .ref pa])), (pa, .inr (2, [.ref pl, .ref pm])), (pl, .inl (cI, 12, .inl (iA le))), (pm, .inl (cI, 12, .inl (iA mo)))] (fun r w => ∃ r9 : Int32, ∃ le9 : Nat → Nat, ∃ mo9 : Nat → Nat, (PAC x o lo hi le mo r9 le9 mo9) ∧ r = r9 ∧ w = [(ax, .inr (5, [.ref t, .ref ga, .ref la, .ref wa, .ref pa])), (pa, .inr (2, [.ref pl, .ref pm])), (pl, .inl (cI, 12, .inl (iA le9))), (pm, .inl (cI, 12, .inl (iA mo9)))]) := by
  refine MI.of (cc := cX5_pace) (maxL := 5) (ret := (some .int)) (own := RX5) (by decide) rfl rfl (Nat.le_of_ble_eq_true rfl) ?_
  intro pQ eQ s mQ args below meth cQ A X hw ls hl
  obtain ⟨⟨hx, hb, hml, hown, hts⟩, hr, hlk, hK, hN, hA⟩ := id X
  have hl : lv_has ls 5 [(0, .ref ax), (1, .int x), (2, .int (bI o)), (3, .int lo), (4, .int hi)] := hl
  have n5 : ∀ w ∈ wsX50, w ∈ wsX5_pace := by decide +kernel
  have f40 : FF args s RX5 wsX5_pace 40 5 4 := ⟨_, rfl, by decide, n5, hts (.fieldLink RX5 40 "AirSteps" "paces" "LAirSteps$Paces;") (by decide +kernel)⟩
  refine lv_iload_n hx hb dX5_pace_0 rfl (lv_at hl 1 rfl) ?_
  refine lv_bipush (v := nI 6) hx hb dX5_pace_1 (by decide) ?_
  refine x_callS (As := [.int x, .int (nI 6)]) (rest := []) X hw hl.1 (c_X5_isBelow l D cI cZ x (nI 6) ) (va_cwS 2 hts gX5_pace_X5_isBelow rfl rfl rfl (by decide +kernel) ⟨Nat.le_of_ble_eq_true rfl, Nat.le_of_ble_eq_true rfl⟩) [] rfl rfl rfl (Nat.le_of_ble_eq_true rfl) dX5_pace_3 (by decide) (fun r w1 H locs hp hw1 => ?_)
  obtain ⟨rfl, rfl⟩ := hp
  have hw : WD D A s.heap [(ax, .inr (5, [.ref t, .ref ga, .ref la, .ref wa, .ref pa])), (pa, .inr (2, [.ref pl, .ref pm])), (pl, .inl (cI, 12, .inl (iA le))), (pm, .inl (cI, 12, .inl (iA mo)))] H locs := hw1 rfl
  refine lv_if_ne (tgt := 12) hx hb dX5_pace_6 (by decide) (fun c_6 => ?_) (fun c_6 => ?_)
  · skip
    rw [q_b0] at c_6; try simp only [Bool.not_eq_false, Bool.not_eq_true] at c_6
    obtain ⟨k, hk, rfl⟩ := bel_t (by decide) c_6
    refine lv_iload_n hx hb dX5_pace_12 rfl (lv_at hl 3 rfl) ?_
    refine lv_iconst (v := nI 1) hx hb dX5_pace_13 (by decide) ?_
    refine lv_icmp_lt (tgt := 30) hx hb dX5_pace_14 (by decide) (fun c_14 => ?_) (fun c_14 => ?_)
    · skip
      refine lv_bipush (v := (-2)) hx hb dX5_pace_30 (by decide) ?_
      exact x_iret X hw (⟨_, _, _, (Or.inl ⟨by simp [okP, c_6, c_14], rfl, rfl, rfl⟩), (rfl), rfl⟩) dX5_pace_32
    · skip
      refine lv_iload hx hb dX5_pace_17 (lv_at hl 4 rfl) ?_
      refine lv_bipush (v := nI 100) hx hb dX5_pace_19 (by decide) ?_
      refine lv_icmp_gt (tgt := 30) hx hb dX5_pace_21 (by decide) (fun c_21 => ?_) (fun c_21 => ?_)
      · skip
        refine lv_bipush (v := (-2)) hx hb dX5_pace_30 (by decide) ?_
        exact x_iret X hw (⟨_, _, _, (Or.inl ⟨by simp [okP, c_6, c_14, c_21], rfl, rfl, rfl⟩), (rfl), rfl⟩) dX5_pace_32
      · skip
        refine lv_iload_n hx hb dX5_pace_24 rfl (lv_at hl 3 rfl) ?_
        refine lv_iload hx hb dX5_pace_25 (lv_at hl 4 rfl) ?_
        refine lv_icmp_le (tgt := 33) hx hb dX5_pace_27 (by decide) (fun c_27 => ?_) (fun c_27 => ?_)
        · skip
          have hok : okP (nI k) lo hi = true := by simp [okP, c_6, c_14, c_21, c_27]
          obtain ⟨a, ha1, ha2, rfl⟩ := p_nI c_14 (i_le_trans c_27 (i_nlt c_21))
          obtain ⟨b, hb1, hb2, rfl⟩ := p_nI (i_nlt_of c_14 c_27) (i_nlt c_21)
          refine lv_aload_n hx hb dX5_pace_33 rfl (lv_at hl 0 rfl) ?_
          refine x_get X hw f40 0 rfl rfl dX5_pace_34 ?_
          refine lv_iload_n hx hb dX5_pace_37 rfl (lv_at hl 1 rfl) ?_
          refine lv_iload_n hx hb dX5_pace_38 rfl (lv_at hl 2 rfl) ?_
          refine x_callS (As := [.int (nI k), .int (bI o)]) (rest := [.ref pa]) X hw hl.1 (c_X5_endOf l D cI cZ k o ) (va_cwS 2 hts gX5_pace_X5_endOf rfl rfl rfl (by decide +kernel) ⟨Nat.le_of_ble_eq_true rfl, Nat.le_of_ble_eq_true rfl⟩) [] rfl rfl rfl (Nat.le_of_ble_eq_true rfl) dX5_pace_39 (by decide) (fun r w1 H locs hp hw1 => ?_)
          obtain ⟨rfl, rfl⟩ := hp
          have hw : WD D A s.heap [(ax, .inr (5, [.ref t, .ref ga, .ref la, .ref wa, .ref pa])), (pa, .inr (2, [.ref pl, .ref pm])), (pl, .inl (cI, 12, .inl (iA le))), (pm, .inl (cI, 12, .inl (iA mo)))] H locs := hw1 rfl
          refine lv_iload_n hx hb dX5_pace_42 rfl (lv_at hl 3 rfl) ?_
          refine lv_iload hx hb dX5_pace_43 (lv_at hl 4 rfl) ?_
          refine x_callVv (As := [.int (nI (enE k o)), .int (nI a), .int (nI b)]) (rest := []) X hw hl.1 (c_X2_put l D cI cZ pa pl pm le mo (enE k o) a b (by unfold enE; split <;> omega)) (cwV 3 hts gX5_pace_X2_put rfl rfl rfl (by decide +kernel) ⟨Nat.le_of_ble_eq_true rfl, Nat.le_of_ble_eq_true rfl⟩) [1, 2, 3] rfl rfl 0 rfl rfl rfl rfl (Nat.le_of_ble_eq_true rfl) dX5_pace_45 (by decide) (fun w1 H locs hp hw1 => ?_)
          obtain rfl := hp
          have hw : WD D A s.heap [(ax, .inr (5, [.ref t, .ref ga, .ref la, .ref wa, .ref pa])), (pa, .inr (2, [.ref pl, .ref pm])), (pl, .inl (cI, 12, .inl (iA (va_up le (enE k o) a)))), (pm, .inl (cI, 12, .inl (iA (va_up mo (enE k o) b))))] H locs := hw1 rfl
          refine lv_iconst (v := nI 1) hx hb dX5_pace_48 (by decide) ?_
          exact x_iret X hw (⟨_, _, _, (Or.inr ⟨k, a, b, hk, rfl, rfl, rfl, by omega, by omega, hok, rfl, rfl, rfl⟩), (rfl), rfl⟩) dX5_pace_49
        · skip
          refine lv_bipush (v := (-2)) hx hb dX5_pace_30 (by decide) ?_
          exact x_iret X hw (⟨_, _, _, (Or.inl ⟨by simp [okP, c_6, c_14, c_21, c_27], rfl, rfl, rfl⟩), (rfl), rfl⟩) dX5_pace_32
  · skip
    rw [q_b0] at c_6; try simp only [Bool.not_eq_false, Bool.not_eq_true] at c_6
    refine lv_bipush (v := (-2)) hx hb dX5_pace_9 (by decide) ?_
    exact x_iret X hw (⟨_, _, _, (Or.inl ⟨by simp [okP, c_6], rfl, rfl, rfl⟩), (rfl), rfl⟩) dX5_pace_11
set_option maxHeartbeats 4000000 in
set_option maxRecDepth 100000 in
theorem c_X5_span (l : Launch) (D : va_G) (cI cZ : ClassId) (ax : Nat) (t : Nat) (ga : Nat) (la : Nat) (wa : Nat) (pa : Nat) (te : Nat) (ts : Nat) (en : Nat → Nat) (st : Nat → Nat) (n : Nat) (pl : Nat) (pm : Nat) (le : Nat → Nat) (mo : Nat → Nat) (x : Int32) (hn : n ≤ 16) (hen : ∀ k, en k < 4096) (hst : ∀ k, st k < 64) (hle : ∀ k, le k < 101) (hmo : ∀ k, mo k < 101) : MI l D cI cZ yX5_span wsX5_span ({ frames := 4, cells := 0, slots := 0, locals := 88 }) [.ref ax, .int x] [(ax, .inr (5, [.ref t, .ref ga, .ref la, .ref wa, .ref pa])), (t, .inr (3, [.ref te, .ref ts, .int (nI n)])), (te, .inl (cI, 16, .inl (iA en))), (ts, .inl (cI, 17, .inl (iA st))), (pa, .inr (2, [.ref pl, .ref pm])), (pl, .inl (cI, 12, .inl (iA le))), (pm, .inl (cI, 12, .inl (iA mo)))] (fun r w => r = (gd2 (bel x (nI 3)) (fwC en st n) (if x = nI 0 then nI (sumP le en n) else if x = nI 1 then nI (sumP mo en n) else (slo mo en n).1)) ∧ w = [(ax, .inr (5, [.ref t, .ref ga, .ref la, .ref wa, .ref pa])), (t, .inr (3, [.ref te, .ref ts, .int (nI n)])), (te, .inl (cI, 16, .inl (iA en))), (ts, .inl (cI, 17, .inl (iA st))), (pa, .inr (2, [.ref pl, .ref pm])), (pl, .inl (cI, 12, .inl (iA le))), (pm, .inl (cI, 12, .inl (iA mo)))]) := by
  refine MI.of (cc := cX5_span) (maxL := 2) (ret := (some .int)) (own := RX5) (by decide) rfl rfl (Nat.le_of_ble_eq_true rfl) ?_
  intro pQ eQ s mQ args below meth cQ A X hw ls hl
  obtain ⟨⟨hx, hb, hml, hown, hts⟩, hr, hlk, hK, hN, hA⟩ := id X
  have hl : lv_has ls 2 [(0, .ref ax), (1, .int x)] := hl
  have n5 : ∀ w ∈ wsX50, w ∈ wsX5_span := by decide +kernel
  have f10 : FF args s RX5 wsX5_span 10 5 0 := ⟨_, rfl, by decide, n5, hts (.fieldLink RX5 10 "AirSteps" "text" "LAirSteps$Text;") (by decide +kernel)⟩
  have f40 : FF args s RX5 wsX5_span 40 5 4 := ⟨_, rfl, by decide, n5, hts (.fieldLink RX5 40 "AirSteps" "paces" "LAirSteps$Paces;") (by decide +kernel)⟩
  refine lv_iload_n hx hb dX5_span_0 rfl (lv_at hl 1 rfl) ?_
  refine lv_iconst (v := nI 3) hx hb dX5_span_1 (by decide) ?_
  refine x_callS (As := [.int x, .int (nI 3)]) (rest := []) X hw hl.1 (c_X5_isBelow l D cI cZ x (nI 3) ) (va_cwS 2 hts gX5_span_X5_isBelow rfl rfl rfl (by decide +kernel) ⟨Nat.le_of_ble_eq_true rfl, Nat.le_of_ble_eq_true rfl⟩) [] rfl rfl rfl (Nat.le_of_ble_eq_true rfl) dX5_span_2 (by decide) (fun r w1 H locs hp hw1 => ?_)
  obtain ⟨rfl, rfl⟩ := hp
  have hw : WD D A s.heap [(ax, .inr (5, [.ref t, .ref ga, .ref la, .ref wa, .ref pa])), (t, .inr (3, [.ref te, .ref ts, .int (nI n)])), (te, .inl (cI, 16, .inl (iA en))), (ts, .inl (cI, 17, .inl (iA st))), (pa, .inr (2, [.ref pl, .ref pm])), (pl, .inl (cI, 12, .inl (iA le))), (pm, .inl (cI, 12, .inl (iA mo)))] H locs := hw1 rfl
  refine lv_if_ne (tgt := 11) hx hb dX5_span_5 (by decide) (fun c_5 => ?_) (fun c_5 => ?_)
  · skip
    rw [q_b0] at c_5; try simp only [Bool.not_eq_false, Bool.not_eq_true] at c_5
    obtain ⟨w9, hw9, rfl⟩ := bel_t (by decide) c_5
    refine lv_aload_n hx hb dX5_span_11 rfl (lv_at hl 0 rfl) ?_
    refine x_get X hw f10 0 rfl rfl dX5_span_12 ?_
    refine x_callV (As := []) (rest := []) X hw hl.1 (c_X3_isSound l D cI cZ t te ts en st n (by first | assumption | omega) (by first | assumption | omega) (by first | assumption | omega)) (cwV 0 hts gX5_span_X3_isSound rfl rfl rfl (by decide +kernel) ⟨Nat.le_of_ble_eq_true rfl, Nat.le_of_ble_eq_true rfl⟩) [1, 2, 3] rfl rfl 0 rfl rfl rfl rfl (Nat.le_of_ble_eq_true rfl) dX5_span_15 (by decide) (fun r w1 H locs hp hw1 => ?_)
    obtain ⟨rfl, rfl⟩ := hp
    have hw : WD D A s.heap [(ax, .inr (5, [.ref t, .ref ga, .ref la, .ref wa, .ref pa])), (t, .inr (3, [.ref te, .ref ts, .int (nI n)])), (te, .inl (cI, 16, .inl (iA en))), (ts, .inl (cI, 17, .inl (iA st))), (pa, .inr (2, [.ref pl, .ref pm])), (pl, .inl (cI, 12, .inl (iA le))), (pm, .inl (cI, 12, .inl (iA mo)))] H locs := hw1 rfl
    refine lv_if_ne (tgt := 24) hx hb dX5_span_18 (by decide) (fun c_18 => ?_) (fun c_18 => ?_)
    · skip
      rw [q_b0] at c_18; try simp only [Bool.not_eq_false, Bool.not_eq_true] at c_18
      have hs := of_decide_eq_true c_18
      have hn0 := fwC_pos hs
      refine lv_iload_n hx hb dX5_span_24 rfl (lv_at hl 1 rfl) ?_
      refine lv_if_ne (tgt := 40) hx hb dX5_span_25 (by decide) (fun c_25 => ?_) (fun c_25 => ?_)
      · skip
        rw [q_eq0 (by omega)] at c_25
        refine lv_iload_n hx hb dX5_span_40 rfl (lv_at hl 1 rfl) ?_
        refine lv_iconst (v := nI 1) hx hb dX5_span_41 (by decide) ?_
        refine lv_icmp_ne (tgt := 57) hx hb dX5_span_42 (by decide) (fun c_42 => ?_) (fun c_42 => ?_)
        · skip
          rw [nI_eq (by omega) (by omega)] at c_42
          refine lv_aload_n hx hb dX5_span_57 rfl (lv_at hl 0 rfl) ?_
          refine x_get X hw f40 0 rfl rfl dX5_span_58 ?_
          refine lv_aload_n hx hb dX5_span_61 rfl (lv_at hl 0 rfl) ?_
          refine x_get X hw f10 0 rfl rfl dX5_span_62 ?_
          refine x_callV (As := [.ref t]) (rest := []) X hw hl.1 (c_X2_slowest l D cI cZ pa pl pm le mo t te ts en st n (by first | assumption | omega) (by first | assumption | omega) (by first | assumption | omega) (by first | assumption | omega) (by first | assumption | omega)) (cwV 1 hts gX5_span_X2_slowest rfl rfl rfl (by decide +kernel) ⟨Nat.le_of_ble_eq_true rfl, Nat.le_of_ble_eq_true rfl⟩) [4, 5, 6, 1, 2, 3] rfl rfl 0 rfl rfl rfl rfl (Nat.le_of_ble_eq_true rfl) dX5_span_65 (by decide) (fun r w1 H locs hp hw1 => ?_)
          obtain ⟨rfl, rfl⟩ := hp
          have hw : WD D A s.heap [(ax, .inr (5, [.ref t, .ref ga, .ref la, .ref wa, .ref pa])), (t, .inr (3, [.ref te, .ref ts, .int (nI n)])), (te, .inl (cI, 16, .inl (iA en))), (ts, .inl (cI, 17, .inl (iA st))), (pa, .inr (2, [.ref pl, .ref pm])), (pl, .inl (cI, 12, .inl (iA le))), (pm, .inl (cI, 12, .inl (iA mo)))] H locs := hw1 rfl
          exact x_iret X hw (⟨(by rw [gd2_t c_5, gd1_t hs, if_neg (fun h => c_25 ((nI_eq (by omega) (by decide)).mp h)), if_neg (fun h => c_42 ((nI_eq (by omega) (by decide)).mp h))]), rfl⟩) dX5_span_68
        · skip
          rw [nI_eq (by omega) (by omega)] at c_42
          refine lv_aload_n hx hb dX5_span_45 rfl (lv_at hl 0 rfl) ?_
          refine x_get X hw f40 0 rfl rfl dX5_span_46 ?_
          refine lv_aload_n hx hb dX5_span_49 rfl (lv_at hl 0 rfl) ?_
          refine x_get X hw f10 0 rfl rfl dX5_span_50 ?_
          refine x_callV (As := [.ref t]) (rest := []) X hw hl.1 (c_X2_mostOfLoop l D cI cZ pa pl pm le mo t te ts en st n (by first | assumption | omega) (by first | assumption | omega) (by first | assumption | omega) (by first | assumption | omega) (by first | assumption | omega)) (cwV 1 hts gX5_span_X2_mostOfLoop rfl rfl rfl (by decide +kernel) ⟨Nat.le_of_ble_eq_true rfl, Nat.le_of_ble_eq_true rfl⟩) [4, 5, 6, 1, 2, 3] rfl rfl 0 rfl rfl rfl rfl (Nat.le_of_ble_eq_true rfl) dX5_span_53 (by decide) (fun r w1 H locs hp hw1 => ?_)
          obtain ⟨rfl, rfl⟩ := hp
          have hw : WD D A s.heap [(ax, .inr (5, [.ref t, .ref ga, .ref la, .ref wa, .ref pa])), (t, .inr (3, [.ref te, .ref ts, .int (nI n)])), (te, .inl (cI, 16, .inl (iA en))), (ts, .inl (cI, 17, .inl (iA st))), (pa, .inr (2, [.ref pl, .ref pm])), (pl, .inl (cI, 12, .inl (iA le))), (pm, .inl (cI, 12, .inl (iA mo)))] H locs := hw1 rfl
          exact x_iret X hw (⟨(by rw [gd2_t c_5, gd1_t hs, c_42]; rfl), rfl⟩) dX5_span_56
      · skip
        rw [q_eq0 (by omega)] at c_25
        refine lv_aload_n hx hb dX5_span_28 rfl (lv_at hl 0 rfl) ?_
        refine x_get X hw f40 0 rfl rfl dX5_span_29 ?_
        refine lv_aload_n hx hb dX5_span_32 rfl (lv_at hl 0 rfl) ?_
        refine x_get X hw f10 0 rfl rfl dX5_span_33 ?_
        refine x_callV (As := [.ref t]) (rest := []) X hw hl.1 (c_X2_leastOfLoop l D cI cZ pa pl pm le mo t te ts en st n (by first | assumption | omega) (by first | assumption | omega) (by first | assumption | omega) (by first | assumption | omega) (by first | assumption | omega)) (cwV 1 hts gX5_span_X2_leastOfLoop rfl rfl rfl (by decide +kernel) ⟨Nat.le_of_ble_eq_true rfl, Nat.le_of_ble_eq_true rfl⟩) [4, 5, 6, 1, 2, 3] rfl rfl 0 rfl rfl rfl rfl (Nat.le_of_ble_eq_true rfl) dX5_span_36 (by decide) (fun r w1 H locs hp hw1 => ?_)
        obtain ⟨rfl, rfl⟩ := hp
        have hw : WD D A s.heap [(ax, .inr (5, [.ref t, .ref ga, .ref la, .ref wa, .ref pa])), (t, .inr (3, [.ref te, .ref ts, .int (nI n)])), (te, .inl (cI, 16, .inl (iA en))), (ts, .inl (cI, 17, .inl (iA st))), (pa, .inr (2, [.ref pl, .ref pm])), (pl, .inl (cI, 12, .inl (iA le))), (pm, .inl (cI, 12, .inl (iA mo)))] H locs := hw1 rfl
        exact x_iret X hw (⟨(by rw [gd2_t c_5, gd1_t hs, c_25]; rfl), rfl⟩) dX5_span_39
    · skip
      rw [q_b0] at c_18; try simp only [Bool.not_eq_false, Bool.not_eq_true] at c_18
      have hs := of_decide_eq_false c_18
      refine lv_bipush (v := (-3)) hx hb dX5_span_21 (by decide) ?_
      exact x_iret X hw (⟨(by rw [gd2_t c_5, gd1_f hs]), rfl⟩) dX5_span_23
  · skip
    rw [q_b0] at c_5; try simp only [Bool.not_eq_false, Bool.not_eq_true] at c_5
    refine lv_bipush (v := (-2)) hx hb dX5_span_8 (by decide) ?_
    exact x_iret X hw (⟨((gd2_f c_5).symm), rfl⟩) dX5_span_10
set_option maxHeartbeats 4000000 in
set_option maxRecDepth 100000 in
theorem c_X5_breach (l : Launch) (D : va_G) (cI cZ : ClassId) (ax : Nat) (t : Nat) (ga : Nat) (la : Nat) (wa : Nat) (pa : Nat) (te : Nat) (ts : Nat) (en : Nat → Nat) (st : Nat → Nat) (n : Nat) (lb : Nat) (lw : Nat) (ba : Nat → Nat) (wh : Nat → Nat) (nl : Nat) (hn : n ≤ 16) (hen : ∀ k, en k < 4096) (hst : ∀ k, st k < 64) (hnl : nl ≤ 12) (hba : ∀ k, ba k < 12) (hwh : ∀ k, wh k < 12) : MI l D cI cZ yX5_breach wsX5_breach ({ frames := 4, cells := 0, slots := 0, locals := 82 }) [.ref ax] [(ax, .inr (5, [.ref t, .ref ga, .ref la, .ref wa, .ref pa])), (t, .inr (3, [.ref te, .ref ts, .int (nI n)])), (te, .inl (cI, 16, .inl (iA en))), (ts, .inl (cI, 17, .inl (iA st))), (la, .inr (1, [.ref lb, .ref lw, .int (nI nl)])), (lb, .inl (cI, 12, .inl (iA ba))), (lw, .inl (cI, 12, .inl (iA wh)))] (fun r w => r = (gd1 (fwC en st n) (fsI (fun k => !alw ba wh nl (en k) (st k)) n)) ∧ w = [(ax, .inr (5, [.ref t, .ref ga, .ref la, .ref wa, .ref pa])), (t, .inr (3, [.ref te, .ref ts, .int (nI n)])), (te, .inl (cI, 16, .inl (iA en))), (ts, .inl (cI, 17, .inl (iA st))), (la, .inr (1, [.ref lb, .ref lw, .int (nI nl)])), (lb, .inl (cI, 12, .inl (iA ba))), (lw, .inl (cI, 12, .inl (iA wh)))]) := by
  refine MI.of (cc := cX5_breach) (maxL := 2) (ret := (some .int)) (own := RX5) (by decide) rfl rfl (Nat.le_of_ble_eq_true rfl) ?_
  intro pQ eQ s mQ args below meth cQ A X hw ls hl
  obtain ⟨⟨hx, hb, hml, hown, hts⟩, hr, hlk, hK, hN, hA⟩ := id X
  have hl : lv_has ls 2 [(0, .ref ax)] := hl
  have n5 : ∀ w ∈ wsX50, w ∈ wsX5_breach := by decide +kernel
  have f10 : FF args s RX5 wsX5_breach 10 5 0 := ⟨_, rfl, by decide, n5, hts (.fieldLink RX5 10 "AirSteps" "text" "LAirSteps$Text;") (by decide +kernel)⟩
  have f26 : FF args s RX5 wsX5_breach 26 5 2 := ⟨_, rfl, by decide, n5, hts (.fieldLink RX5 26 "AirSteps" "laws" "LAirSteps$Laws;") (by decide +kernel)⟩
  refine lv_aload_n hx hb dX5_breach_0 rfl (lv_at hl 0 rfl) ?_
  refine x_get X hw f10 0 rfl rfl dX5_breach_1 ?_
  refine x_callV (As := []) (rest := []) X hw hl.1 (c_X3_isSound l D cI cZ t te ts en st n (by first | assumption | omega) (by first | assumption | omega) (by first | assumption | omega)) (cwV 0 hts gX5_breach_X3_isSound rfl rfl rfl (by decide +kernel) ⟨Nat.le_of_ble_eq_true rfl, Nat.le_of_ble_eq_true rfl⟩) [1, 2, 3] rfl rfl 0 rfl rfl rfl rfl (Nat.le_of_ble_eq_true rfl) dX5_breach_4 (by decide) (fun r w1 H locs hp hw1 => ?_)
  obtain ⟨rfl, rfl⟩ := hp
  have hw : WD D A s.heap [(ax, .inr (5, [.ref t, .ref ga, .ref la, .ref wa, .ref pa])), (t, .inr (3, [.ref te, .ref ts, .int (nI n)])), (te, .inl (cI, 16, .inl (iA en))), (ts, .inl (cI, 17, .inl (iA st))), (la, .inr (1, [.ref lb, .ref lw, .int (nI nl)])), (lb, .inl (cI, 12, .inl (iA ba))), (lw, .inl (cI, 12, .inl (iA wh)))] H locs := hw1 rfl
  refine lv_if_ne (tgt := 13) hx hb dX5_breach_7 (by decide) (fun c_7 => ?_) (fun c_7 => ?_)
  · skip
    rw [q_b0] at c_7; try simp only [Bool.not_eq_false, Bool.not_eq_true] at c_7
    have hs := of_decide_eq_true c_7
    have hn0 := fwC_pos hs
    refine lv_iconst (v := nI 0) hx hb dX5_breach_13 (by decide) ?_
    refine lv_istore_n (lv' := [(1, .int (nI 0)), (0, .ref ax)]) hx hb dX5_breach_14 rfl hl (by decide) rfl (fun ls hl => ?_)
    refine wl (α := Nat) (nL := 2) (fun aQ => n - aQ) (fun aQ => (aQ ≤ n) ∧ (∀ j, j < aQ → (!alw ba wh nl (en j) (st j)) = false)) (fun aQ => [(ax, .inr (5, [.ref t, .ref ga, .ref la, .ref wa, .ref pa])), (t, .inr (3, [.ref te, .ref ts, .int (nI n)])), (te, .inl (cI, 16, .inl (iA en))), (ts, .inl (cI, 17, .inl (iA st))), (la, .inr (1, [.ref lb, .ref lw, .int (nI nl)])), (lb, .inl (cI, 12, .inl (iA ba))), (lw, .inl (cI, 12, .inl (iA wh)))]) (fun aQ => [(1, .int (nI aQ)), (0, .ref ax)]) ?_ 0 ⟨(show 0 ≤ n from by omega), (show ∀ j, j < 0 → (!alw ba wh nl (en j) (st j)) = false from fun j hj => absurd hj (Nat.not_lt_zero j))⟩ _ _ _ hw (lv_sub hl [0, 1] rfl)
    rintro i ⟨hi, hq⟩ H locs ls hw hl ih_15
    have hi : i ≤ n := hi
    have hq : ∀ j, j < i → (!alw ba wh nl (en j) (st j)) = false := hq
    have hw : WD D A s.heap [(ax, .inr (5, [.ref t, .ref ga, .ref la, .ref wa, .ref pa])), (t, .inr (3, [.ref te, .ref ts, .int (nI n)])), (te, .inl (cI, 16, .inl (iA en))), (ts, .inl (cI, 17, .inl (iA st))), (la, .inr (1, [.ref lb, .ref lw, .int (nI nl)])), (lb, .inl (cI, 12, .inl (iA ba))), (lw, .inl (cI, 12, .inl (iA wh)))] H locs := hw
    have hl : lv_has ls 2 [(1, .int (nI i)), (0, .ref ax)] := hl
    refine lv_iload_n hx hb dX5_breach_15 rfl (lv_at hl 0 rfl) ?_
    refine lv_aload_n hx hb dX5_breach_16 rfl (lv_at hl 1 rfl) ?_
    refine x_get X hw f10 0 rfl rfl dX5_breach_17 ?_
    refine x_callV (As := []) (rest := [.int (nI i)]) X hw hl.1 (c_X3_size l D cI cZ t te ts en st n ) (cwV 0 hts gX5_breach_X3_size rfl rfl rfl (by decide +kernel) ⟨Nat.le_of_ble_eq_true rfl, Nat.le_of_ble_eq_true rfl⟩) [1, 2, 3] rfl rfl 0 rfl rfl rfl rfl (Nat.le_of_ble_eq_true rfl) dX5_breach_20 (by decide) (fun r w1 H locs hp hw1 => ?_)
    obtain ⟨rfl, rfl⟩ := hp
    have hw : WD D A s.heap [(ax, .inr (5, [.ref t, .ref ga, .ref la, .ref wa, .ref pa])), (t, .inr (3, [.ref te, .ref ts, .int (nI n)])), (te, .inl (cI, 16, .inl (iA en))), (ts, .inl (cI, 17, .inl (iA st))), (la, .inr (1, [.ref lb, .ref lw, .int (nI nl)])), (lb, .inl (cI, 12, .inl (iA ba))), (lw, .inl (cI, 12, .inl (iA wh)))] H locs := hw1 rfl
    refine lv_icmp_ge (tgt := 60) hx hb dX5_breach_23 (by decide) (fun c_23 => ?_) (fun c_23 => ?_)
    · skip
      rw [nI_leI (by omega) (by omega)] at c_23
      refine lv_iconst (v := (-1)) hx hb dX5_breach_60 (by decide) ?_
      exact x_iret X hw (⟨(by rw [gd1_t hs, fsI_no (P := fun k => !alw ba wh nl (en k) (st k)) (fun j hj => hq j (by omega))]), rfl⟩) dX5_breach_61
    · skip
      rw [nI_leI (by omega) (by omega)] at c_23
      refine lv_aload_n hx hb dX5_breach_26 rfl (lv_at hl 1 rfl) ?_
      refine x_get X hw f26 0 rfl rfl dX5_breach_27 ?_
      refine lv_aload_n hx hb dX5_breach_30 rfl (lv_at hl 1 rfl) ?_
      refine x_get X hw f10 0 rfl rfl dX5_breach_31 ?_
      refine lv_iload_n hx hb dX5_breach_34 rfl (lv_at hl 0 rfl) ?_
      refine x_callV (As := [.int (nI i)]) (rest := [.ref la]) X hw hl.1 (c_X3_endsOf l D cI cZ t te ts en st n i (by first | assumption | omega) (by first | assumption | omega) (by first | assumption | omega) (by first | assumption | omega)) (cwV 1 hts gX5_breach_X3_endsOf rfl rfl rfl (by decide +kernel) ⟨Nat.le_of_ble_eq_true rfl, Nat.le_of_ble_eq_true rfl⟩) [1, 2, 3] rfl rfl 0 rfl rfl rfl rfl (Nat.le_of_ble_eq_true rfl) dX5_breach_35 (by decide) (fun r w1 H locs hp hw1 => ?_)
      obtain ⟨rfl, rfl⟩ := hp
      have hw : WD D A s.heap [(ax, .inr (5, [.ref t, .ref ga, .ref la, .ref wa, .ref pa])), (t, .inr (3, [.ref te, .ref ts, .int (nI n)])), (te, .inl (cI, 16, .inl (iA en))), (ts, .inl (cI, 17, .inl (iA st))), (la, .inr (1, [.ref lb, .ref lw, .int (nI nl)])), (lb, .inl (cI, 12, .inl (iA ba))), (lw, .inl (cI, 12, .inl (iA wh)))] H locs := hw1 rfl
      refine lv_aload_n hx hb dX5_breach_38 rfl (lv_at hl 1 rfl) ?_
      refine x_get X hw f10 0 rfl rfl dX5_breach_39 ?_
      refine lv_iload_n hx hb dX5_breach_42 rfl (lv_at hl 0 rfl) ?_
      refine x_callV (As := [.int (nI i)]) (rest := [.int (nI (en i)), .ref la]) X hw hl.1 (c_X3_stateAt l D cI cZ t te ts en st n i (by first | assumption | omega) (by first | assumption | omega) (by first | assumption | omega) (by first | assumption | omega)) (cwV 1 hts gX5_breach_X3_stateAt rfl rfl rfl (by decide +kernel) ⟨Nat.le_of_ble_eq_true rfl, Nat.le_of_ble_eq_true rfl⟩) [1, 2, 3] rfl rfl 0 rfl rfl rfl rfl (Nat.le_of_ble_eq_true rfl) dX5_breach_43 (by decide) (fun r w1 H locs hp hw1 => ?_)
      obtain ⟨rfl, rfl⟩ := hp
      have hw : WD D A s.heap [(ax, .inr (5, [.ref t, .ref ga, .ref la, .ref wa, .ref pa])), (t, .inr (3, [.ref te, .ref ts, .int (nI n)])), (te, .inl (cI, 16, .inl (iA en))), (ts, .inl (cI, 17, .inl (iA st))), (la, .inr (1, [.ref lb, .ref lw, .int (nI nl)])), (lb, .inl (cI, 12, .inl (iA ba))), (lw, .inl (cI, 12, .inl (iA wh)))] H locs := hw1 rfl
      refine x_callV (As := [.int (nI (en i)), .int (nI (st i))]) (rest := []) X hw hl.1 (c_X1_allow l D cI cZ la lb lw ba wh nl (en i) (st i) (by first | assumption | omega) (by first | assumption | omega) (by first | assumption | omega) (hen i) (hst i)) (cwV 2 hts gX5_breach_X1_allow rfl rfl rfl (by decide +kernel) ⟨Nat.le_of_ble_eq_true rfl, Nat.le_of_ble_eq_true rfl⟩) [4, 5, 6] rfl rfl 0 rfl rfl rfl rfl (Nat.le_of_ble_eq_true rfl) dX5_breach_46 (by decide) (fun r w1 H locs hp hw1 => ?_)
      obtain ⟨rfl, rfl⟩ := hp
      have hw : WD D A s.heap [(ax, .inr (5, [.ref t, .ref ga, .ref la, .ref wa, .ref pa])), (t, .inr (3, [.ref te, .ref ts, .int (nI n)])), (te, .inl (cI, 16, .inl (iA en))), (ts, .inl (cI, 17, .inl (iA st))), (la, .inr (1, [.ref lb, .ref lw, .int (nI nl)])), (lb, .inl (cI, 12, .inl (iA ba))), (lw, .inl (cI, 12, .inl (iA wh)))] H locs := hw1 rfl
      refine lv_if_ne (tgt := 54) hx hb dX5_breach_49 (by decide) (fun c_49 => ?_) (fun c_49 => ?_)
      · skip
        rw [q_b0] at c_49; try simp only [Bool.not_eq_false, Bool.not_eq_true] at c_49
        refine lv_iinc (v := nI (i + 1)) (lv' := [(1, .int (nI (i + 1))), (0, .ref ax)]) hx hb dX5_breach_54 hl (k := 0) rfl (nI_add i 1) (by decide) rfl (fun ls hl => ?_)
        refine lv_goto (tgt := 15) hx hb dX5_breach_57 (by decide) ?_
        exact ih_15 (i + 1) (by show n - (i + 1) < n - i; omega) ⟨(show (i + 1) ≤ n from by omega), (show ∀ j, j < (i + 1) → (!alw ba wh nl (en j) (st j)) = false from lt_snoc (P := fun k => !alw ba wh nl (en k) (st k)) hq (by simp [c_49]))⟩ _ _ _ hw (lv_sub hl [0, 1] rfl)
      · skip
        rw [q_b0] at c_49; try simp only [Bool.not_eq_false, Bool.not_eq_true] at c_49
        refine lv_iload_n hx hb dX5_breach_52 rfl (lv_at hl 0 rfl) ?_
        exact x_iret X hw (⟨(by rw [gd1_t hs, fsI_yes (P := fun k => !alw ba wh nl (en k) (st k)) (k := i) (by omega) hq (by simp [c_49])]), rfl⟩) dX5_breach_53
  · skip
    rw [q_b0] at c_7; try simp only [Bool.not_eq_false, Bool.not_eq_true] at c_7
    have hs := of_decide_eq_false c_7
    refine lv_bipush (v := (-3)) hx hb dX5_breach_10 (by decide) ?_
    exact x_iret X hw (⟨((gd1_f hs).symm), rfl⟩) dX5_breach_12
set_option maxHeartbeats 4000000 in
set_option maxRecDepth 100000 in
theorem c_X5_home (l : Launch) (D : va_G) (cI cZ : ClassId) (ax : Nat) (t : Nat) (ga : Nat) (la : Nat) (wa : Nat) (pa : Nat) (wv : Nat) (wq : Nat) (dp : Nat → Nat) (qu : Nat → Nat) (x : Int32)  : MI l D cI cZ yX5_home wsX5_home ({ frames := 3, cells := 0, slots := 0, locals := 62 }) [.ref ax, .int x] [(ax, .inr (5, [.ref t, .ref ga, .ref la, .ref wa, .ref pa])), (wa, .inr (4, [.ref wv, .ref wq])), (wv, .inl (cI, 64, .inl (mA dp))), (wq, .inl (cI, 64, .inl (iA qu)))] (fun r w => r = (if bel x (nI 64) then mI (dp x.toNatClampNeg) else -2) ∧ w = [(ax, .inr (5, [.ref t, .ref ga, .ref la, .ref wa, .ref pa])), (wa, .inr (4, [.ref wv, .ref wq])), (wv, .inl (cI, 64, .inl (mA dp))), (wq, .inl (cI, 64, .inl (iA qu)))]) := by
  refine MI.of (cc := cX5_home) (maxL := 2) (ret := (some .int)) (own := RX5) (by decide) rfl rfl (Nat.le_of_ble_eq_true rfl) ?_
  intro pQ eQ s mQ args below meth cQ A X hw ls hl
  obtain ⟨⟨hx, hb, hml, hown, hts⟩, hr, hlk, hK, hN, hA⟩ := id X
  have hl : lv_has ls 2 [(0, .ref ax), (1, .int x)] := hl
  have n5 : ∀ w ∈ wsX50, w ∈ wsX5_home := by decide +kernel
  have f33 : FF args s RX5 wsX5_home 33 5 3 := ⟨_, rfl, by decide, n5, hts (.fieldLink RX5 33 "AirSteps" "ways" "LAirSteps$Ways;") (by decide +kernel)⟩
  refine lv_iload_n hx hb dX5_home_0 rfl (lv_at hl 1 rfl) ?_
  refine x_callS (As := [.int x]) (rest := []) X hw hl.1 (c_X5_isState l D cI cZ x ) (va_cwS 1 hts gX5_home_X5_isState rfl rfl rfl (by decide +kernel) ⟨Nat.le_of_ble_eq_true rfl, Nat.le_of_ble_eq_true rfl⟩) [] rfl rfl rfl (Nat.le_of_ble_eq_true rfl) dX5_home_1 (by decide) (fun r w1 H locs hp hw1 => ?_)
  obtain ⟨rfl, rfl⟩ := hp
  have hw : WD D A s.heap [(ax, .inr (5, [.ref t, .ref ga, .ref la, .ref wa, .ref pa])), (wa, .inr (4, [.ref wv, .ref wq])), (wv, .inl (cI, 64, .inl (mA dp))), (wq, .inl (cI, 64, .inl (iA qu)))] H locs := hw1 rfl
  refine lv_if_ne (tgt := 10) hx hb dX5_home_4 (by decide) (fun c_4 => ?_) (fun c_4 => ?_)
  · skip
    rw [q_b0] at c_4; try simp only [Bool.not_eq_false, Bool.not_eq_true] at c_4
    obtain ⟨k, hk, rfl⟩ := bel_t (by decide) c_4
    refine lv_aload_n hx hb dX5_home_10 rfl (lv_at hl 0 rfl) ?_
    refine x_get X hw f33 0 rfl rfl dX5_home_11 ?_
    refine lv_iload_n hx hb dX5_home_14 rfl (lv_at hl 1 rfl) ?_
    refine x_callV (As := [.int (nI k)]) (rest := []) X hw hl.1 (c_X4_length l D cI cZ wa wv wq dp qu k (by first | assumption | omega)) (cwV 1 hts gX5_home_X4_length rfl rfl rfl (by decide +kernel) ⟨Nat.le_of_ble_eq_true rfl, Nat.le_of_ble_eq_true rfl⟩) [1, 2, 3] rfl rfl 0 rfl rfl rfl rfl (Nat.le_of_ble_eq_true rfl) dX5_home_15 (by decide) (fun r w1 H locs hp hw1 => ?_)
    obtain ⟨rfl, rfl⟩ := hp
    have hw : WD D A s.heap [(ax, .inr (5, [.ref t, .ref ga, .ref la, .ref wa, .ref pa])), (wa, .inr (4, [.ref wv, .ref wq])), (wv, .inl (cI, 64, .inl (mA dp))), (wq, .inl (cI, 64, .inl (iA qu)))] H locs := hw1 rfl
    exact x_iret X hw (⟨(by rw [c_4, nc k (by omega)]; rfl), rfl⟩) dX5_home_18
  · skip
    rw [q_b0] at c_4; try simp only [Bool.not_eq_false, Bool.not_eq_true] at c_4
    refine lv_bipush (v := (-2)) hx hb dX5_home_7 (by decide) ?_
    exact x_iret X hw (⟨(by rw [c_4]; rfl), rfl⟩) dX5_home_9
set_option maxHeartbeats 4000000 in
set_option maxRecDepth 100000 in
theorem c_X5_way (l : Launch) (D : va_G) (cI cZ : ClassId) (ax : Nat) (t : Nat) (ga : Nat) (la : Nat) (wa : Nat) (pa : Nat) (wv : Nat) (wq : Nat) (dp : Nat → Nat) (qu : Nat → Nat) (lb : Nat) (lw : Nat) (ba : Nat → Nat) (wh : Nat → Nat) (nl : Nat) (x : Int32) (y : Int32) (hnl : nl ≤ 12) (hba : ∀ k, ba k < 12) (hwh : ∀ k, wh k < 12) (hdp : ∀ k, dp k < 1000) (hqu : ∀ k, qu k < 64) : MI l D cI cZ yX5_way wsX5_way ({ frames := 6, cells := 0, slots := 0, locals := 139 }) [.ref ax, .int x, .int y] [(ax, .inr (5, [.ref t, .ref ga, .ref la, .ref wa, .ref pa])), (wa, .inr (4, [.ref wv, .ref wq])), (wv, .inl (cI, 64, .inl (mA dp))), (wq, .inl (cI, 64, .inl (iA qu))), (la, .inr (1, [.ref lb, .ref lw, .int (nI nl)])), (lb, .inl (cI, 12, .inl (iA ba))), (lw, .inl (cI, 12, .inl (iA wh)))] (fun r w => r = (if bel x (nI 64) = true ∧ ¬ y < 0 then mvC (alM ba wh nl) dp x.toNatClampNeg y.toNatClampNeg else -2) ∧ w = [(ax, .inr (5, [.ref t, .ref ga, .ref la, .ref wa, .ref pa])), (wa, .inr (4, [.ref wv, .ref wq])), (wv, .inl (cI, 64, .inl (mA dp))), (wq, .inl (cI, 64, .inl (iA qu))), (la, .inr (1, [.ref lb, .ref lw, .int (nI nl)])), (lb, .inl (cI, 12, .inl (iA ba))), (lw, .inl (cI, 12, .inl (iA wh)))]) := by
  refine MI.of (cc := cX5_way) (maxL := 3) (ret := (some .int)) (own := RX5) (by decide) rfl rfl (Nat.le_of_ble_eq_true rfl) ?_
  intro pQ eQ s mQ args below meth cQ A X hw ls hl
  obtain ⟨⟨hx, hb, hml, hown, hts⟩, hr, hlk, hK, hN, hA⟩ := id X
  have hl : lv_has ls 3 [(0, .ref ax), (1, .int x), (2, .int y)] := hl
  have n5 : ∀ w ∈ wsX50, w ∈ wsX5_way := by decide +kernel
  have f26 : FF args s RX5 wsX5_way 26 5 2 := ⟨_, rfl, by decide, n5, hts (.fieldLink RX5 26 "AirSteps" "laws" "LAirSteps$Laws;") (by decide +kernel)⟩
  have f33 : FF args s RX5 wsX5_way 33 5 3 := ⟨_, rfl, by decide, n5, hts (.fieldLink RX5 33 "AirSteps" "ways" "LAirSteps$Ways;") (by decide +kernel)⟩
  refine lv_iload_n hx hb dX5_way_0 rfl (lv_at hl 1 rfl) ?_
  refine x_callS (As := [.int x]) (rest := []) X hw hl.1 (c_X5_isState l D cI cZ x ) (va_cwS 1 hts gX5_way_X5_isState rfl rfl rfl (by decide +kernel) ⟨Nat.le_of_ble_eq_true rfl, Nat.le_of_ble_eq_true rfl⟩) [] rfl rfl rfl (Nat.le_of_ble_eq_true rfl) dX5_way_1 (by decide) (fun r w1 H locs hp hw1 => ?_)
  obtain ⟨rfl, rfl⟩ := hp
  have hw : WD D A s.heap [(ax, .inr (5, [.ref t, .ref ga, .ref la, .ref wa, .ref pa])), (wa, .inr (4, [.ref wv, .ref wq])), (wv, .inl (cI, 64, .inl (mA dp))), (wq, .inl (cI, 64, .inl (iA qu))), (la, .inr (1, [.ref lb, .ref lw, .int (nI nl)])), (lb, .inl (cI, 12, .inl (iA ba))), (lw, .inl (cI, 12, .inl (iA wh)))] H locs := hw1 rfl
  refine lv_if_eq (tgt := 11) hx hb dX5_way_4 (by decide) (fun c_4 => ?_) (fun c_4 => ?_)
  · skip
    rw [q_b0] at c_4; try simp only [Bool.not_eq_false, Bool.not_eq_true] at c_4
    refine lv_bipush (v := (-2)) hx hb dX5_way_11 (by decide) ?_
    exact x_iret X hw (⟨(by rw [if_neg (fun h => by rw [c_4] at h; exact absurd h.1 (by decide))]), rfl⟩) dX5_way_13
  · skip
    rw [q_b0] at c_4; try simp only [Bool.not_eq_false, Bool.not_eq_true] at c_4
    obtain ⟨a, ha, rfl⟩ := bel_t (by decide) c_4
    refine lv_iload_n hx hb dX5_way_7 rfl (lv_at hl 2 rfl) ?_
    refine lv_if_ge (tgt := 14) hx hb dX5_way_8 (by decide) (fun c_8 => ?_) (fun c_8 => ?_)
    · skip
      have c_8 : ¬ y < 0 := Int32.not_lt.mpr c_8
      obtain ⟨k, hk, rfl⟩ := nI_of c_8
      refine lv_aload_n hx hb dX5_way_14 rfl (lv_at hl 0 rfl) ?_
      refine x_get X hw f33 0 rfl rfl dX5_way_15 ?_
      refine lv_aload_n hx hb dX5_way_18 rfl (lv_at hl 0 rfl) ?_
      refine x_get X hw f26 0 rfl rfl dX5_way_19 ?_
      refine lv_iload_n hx hb dX5_way_22 rfl (lv_at hl 1 rfl) ?_
      refine lv_iload_n hx hb dX5_way_23 rfl (lv_at hl 2 rfl) ?_
      refine x_callV (As := [.ref la, .int (nI a), .int (nI k)]) (rest := []) X hw hl.1 (c_X4_move l D cI cZ wa wv wq dp qu la lb lw ba wh nl a k (by first | assumption | omega) (by first | assumption | omega) (by first | assumption | omega) (by first | assumption | omega) (by first | assumption | omega) (by first | assumption | omega) (by first | assumption | omega)) (cwV 3 hts gX5_way_X4_move rfl rfl rfl (by decide +kernel) ⟨Nat.le_of_ble_eq_true rfl, Nat.le_of_ble_eq_true rfl⟩) [1, 2, 3, 4, 5, 6] rfl rfl 0 rfl rfl rfl rfl (Nat.le_of_ble_eq_true rfl) dX5_way_24 (by decide) (fun r w1 H locs hp hw1 => ?_)
      obtain ⟨rfl, rfl⟩ := hp
      have hw : WD D A s.heap [(ax, .inr (5, [.ref t, .ref ga, .ref la, .ref wa, .ref pa])), (wa, .inr (4, [.ref wv, .ref wq])), (wv, .inl (cI, 64, .inl (mA dp))), (wq, .inl (cI, 64, .inl (iA qu))), (la, .inr (1, [.ref lb, .ref lw, .int (nI nl)])), (lb, .inl (cI, 12, .inl (iA ba))), (lw, .inl (cI, 12, .inl (iA wh)))] H locs := hw1 rfl
      exact x_iret X hw (⟨(by rw [if_pos ⟨c_4, c_8⟩, nc a (by omega), nc k hk]), rfl⟩) dX5_way_27
    · skip
      have c_8 : y < 0 := Int32.not_le.mp c_8
      refine lv_bipush (v := (-2)) hx hb dX5_way_11 (by decide) ?_
      exact x_iret X hw (⟨(by rw [if_neg (fun h => h.2 c_8)]), rfl⟩) dX5_way_13
set_option maxHeartbeats 4000000 in
set_option maxRecDepth 100000 in
theorem c_X5_stops (l : Launch) (D : va_G) (cI cZ : ClassId) (ax : Nat) (t : Nat) (ga : Nat) (la : Nat) (wa : Nat) (pa : Nat) (te : Nat) (ts : Nat) (en : Nat → Nat) (st : Nat → Nat) (n : Nat) (x : Int32) (hn : n ≤ 16) (hen : ∀ k, en k < 4096) (hst : ∀ k, st k < 64) : MI l D cI cZ yX5_stops wsX5_stops ({ frames := 4, cells := 0, slots := 0, locals := 82 }) [.ref ax, .int x] [(ax, .inr (5, [.ref t, .ref ga, .ref la, .ref wa, .ref pa])), (t, .inr (3, [.ref te, .ref ts, .int (nI n)])), (te, .inl (cI, 16, .inl (iA en))), (ts, .inl (cI, 17, .inl (iA st)))] (fun r w => r = (gd2 (bel x (nI 12)) (fwC en st n) (fsI (fun k => (en (pr n k)).testBit x.toNatClampNeg) n)) ∧ w = [(ax, .inr (5, [.ref t, .ref ga, .ref la, .ref wa, .ref pa])), (t, .inr (3, [.ref te, .ref ts, .int (nI n)])), (te, .inl (cI, 16, .inl (iA en))), (ts, .inl (cI, 17, .inl (iA st)))]) := by
  refine MI.of (cc := cX5_stops) (maxL := 3) (ret := (some .int)) (own := RX5) (by decide) rfl rfl (Nat.le_of_ble_eq_true rfl) ?_
  intro pQ eQ s mQ args below meth cQ A X hw ls hl
  obtain ⟨⟨hx, hb, hml, hown, hts⟩, hr, hlk, hK, hN, hA⟩ := id X
  have hl : lv_has ls 3 [(0, .ref ax), (1, .int x)] := hl
  have n5 : ∀ w ∈ wsX50, w ∈ wsX5_stops := by decide +kernel
  have f10 : FF args s RX5 wsX5_stops 10 5 0 := ⟨_, rfl, by decide, n5, hts (.fieldLink RX5 10 "AirSteps" "text" "LAirSteps$Text;") (by decide +kernel)⟩
  refine lv_iload_n hx hb dX5_stops_0 rfl (lv_at hl 1 rfl) ?_
  refine lv_bipush (v := nI 12) hx hb dX5_stops_1 (by decide) ?_
  refine x_callS (As := [.int x, .int (nI 12)]) (rest := []) X hw hl.1 (c_X5_isBelow l D cI cZ x (nI 12) ) (va_cwS 2 hts gX5_stops_X5_isBelow rfl rfl rfl (by decide +kernel) ⟨Nat.le_of_ble_eq_true rfl, Nat.le_of_ble_eq_true rfl⟩) [] rfl rfl rfl (Nat.le_of_ble_eq_true rfl) dX5_stops_3 (by decide) (fun r w1 H locs hp hw1 => ?_)
  obtain ⟨rfl, rfl⟩ := hp
  have hw : WD D A s.heap [(ax, .inr (5, [.ref t, .ref ga, .ref la, .ref wa, .ref pa])), (t, .inr (3, [.ref te, .ref ts, .int (nI n)])), (te, .inl (cI, 16, .inl (iA en))), (ts, .inl (cI, 17, .inl (iA st)))] H locs := hw1 rfl
  refine lv_if_ne (tgt := 12) hx hb dX5_stops_6 (by decide) (fun c_6 => ?_) (fun c_6 => ?_)
  · skip
    rw [q_b0] at c_6; try simp only [Bool.not_eq_false, Bool.not_eq_true] at c_6
    obtain ⟨k9, hk9, rfl⟩ := bel_t (by decide) c_6
    refine lv_aload_n hx hb dX5_stops_12 rfl (lv_at hl 0 rfl) ?_
    refine x_get X hw f10 0 rfl rfl dX5_stops_13 ?_
    refine x_callV (As := []) (rest := []) X hw hl.1 (c_X3_isSound l D cI cZ t te ts en st n (by first | assumption | omega) (by first | assumption | omega) (by first | assumption | omega)) (cwV 0 hts gX5_stops_X3_isSound rfl rfl rfl (by decide +kernel) ⟨Nat.le_of_ble_eq_true rfl, Nat.le_of_ble_eq_true rfl⟩) [1, 2, 3] rfl rfl 0 rfl rfl rfl rfl (Nat.le_of_ble_eq_true rfl) dX5_stops_16 (by decide) (fun r w1 H locs hp hw1 => ?_)
    obtain ⟨rfl, rfl⟩ := hp
    have hw : WD D A s.heap [(ax, .inr (5, [.ref t, .ref ga, .ref la, .ref wa, .ref pa])), (t, .inr (3, [.ref te, .ref ts, .int (nI n)])), (te, .inl (cI, 16, .inl (iA en))), (ts, .inl (cI, 17, .inl (iA st)))] H locs := hw1 rfl
    refine lv_if_ne (tgt := 25) hx hb dX5_stops_19 (by decide) (fun c_19 => ?_) (fun c_19 => ?_)
    · skip
      rw [q_b0] at c_19; try simp only [Bool.not_eq_false, Bool.not_eq_true] at c_19
      have hs := of_decide_eq_true c_19
      have hn0 := fwC_pos hs
      refine lv_iconst (v := nI 0) hx hb dX5_stops_25 (by decide) ?_
      refine lv_istore_n (lv' := [(2, .int (nI 0)), (0, .ref ax), (1, .int (nI k9))]) hx hb dX5_stops_26 rfl hl (by decide) rfl (fun ls hl => ?_)
      refine wl (α := Nat) (nL := 3) (fun aQ => n - aQ) (fun aQ => (aQ ≤ n) ∧ (∀ j, j < aQ → (en (pr n j)).testBit k9 = false)) (fun aQ => [(ax, .inr (5, [.ref t, .ref ga, .ref la, .ref wa, .ref pa])), (t, .inr (3, [.ref te, .ref ts, .int (nI n)])), (te, .inl (cI, 16, .inl (iA en))), (ts, .inl (cI, 17, .inl (iA st)))]) (fun aQ => [(2, .int (nI aQ)), (0, .ref ax), (1, .int (nI k9))]) ?_ 0 ⟨(show 0 ≤ n from by omega), (show ∀ j, j < 0 → (en (pr n j)).testBit k9 = false from fun j hj => absurd hj (Nat.not_lt_zero j))⟩ _ _ _ hw (lv_sub hl [0, 1, 2] rfl)
      rintro i ⟨hi, hq⟩ H locs ls hw hl ih_27
      have hi : i ≤ n := hi
      have hq : ∀ j, j < i → (en (pr n j)).testBit k9 = false := hq
      have hw : WD D A s.heap [(ax, .inr (5, [.ref t, .ref ga, .ref la, .ref wa, .ref pa])), (t, .inr (3, [.ref te, .ref ts, .int (nI n)])), (te, .inl (cI, 16, .inl (iA en))), (ts, .inl (cI, 17, .inl (iA st)))] H locs := hw
      have hl : lv_has ls 3 [(2, .int (nI i)), (0, .ref ax), (1, .int (nI k9))] := hl
      refine lv_iload_n hx hb dX5_stops_27 rfl (lv_at hl 0 rfl) ?_
      refine lv_aload_n hx hb dX5_stops_28 rfl (lv_at hl 1 rfl) ?_
      refine x_get X hw f10 0 rfl rfl dX5_stops_29 ?_
      refine x_callV (As := []) (rest := [.int (nI i)]) X hw hl.1 (c_X3_size l D cI cZ t te ts en st n ) (cwV 0 hts gX5_stops_X3_size rfl rfl rfl (by decide +kernel) ⟨Nat.le_of_ble_eq_true rfl, Nat.le_of_ble_eq_true rfl⟩) [1, 2, 3] rfl rfl 0 rfl rfl rfl rfl (Nat.le_of_ble_eq_true rfl) dX5_stops_32 (by decide) (fun r w1 H locs hp hw1 => ?_)
      obtain ⟨rfl, rfl⟩ := hp
      have hw : WD D A s.heap [(ax, .inr (5, [.ref t, .ref ga, .ref la, .ref wa, .ref pa])), (t, .inr (3, [.ref te, .ref ts, .int (nI n)])), (te, .inl (cI, 16, .inl (iA en))), (ts, .inl (cI, 17, .inl (iA st)))] H locs := hw1 rfl
      refine lv_icmp_ge (tgt := 61) hx hb dX5_stops_35 (by decide) (fun c_35 => ?_) (fun c_35 => ?_)
      · skip
        rw [nI_leI (by omega) (by omega)] at c_35
        refine lv_iconst (v := (-1)) hx hb dX5_stops_61 (by decide) ?_
        exact x_iret X hw (⟨(by rw [gd2_t c_6, gd1_t hs, nc k9 (by omega), fsI_no (P := fun k => (en (pr n k)).testBit k9) (fun j hj => hq j (by omega))]), rfl⟩) dX5_stops_62
      · skip
        rw [nI_leI (by omega) (by omega)] at c_35
        refine lv_aload_n hx hb dX5_stops_38 rfl (lv_at hl 1 rfl) ?_
        refine x_get X hw f10 0 rfl rfl dX5_stops_39 ?_
        refine lv_iload_n hx hb dX5_stops_42 rfl (lv_at hl 0 rfl) ?_
        refine x_callV (As := [.int (nI i)]) (rest := []) X hw hl.1 (c_X3_trigger l D cI cZ t te ts en st n i (by first | assumption | omega) (by first | assumption | omega) (by first | assumption | omega) (by first | assumption | omega)) (cwV 1 hts gX5_stops_X3_trigger rfl rfl rfl (by decide +kernel) ⟨Nat.le_of_ble_eq_true rfl, Nat.le_of_ble_eq_true rfl⟩) [1, 2, 3] rfl rfl 0 rfl rfl rfl rfl (Nat.le_of_ble_eq_true rfl) dX5_stops_43 (by decide) (fun r w1 H locs hp hw1 => ?_)
        obtain ⟨rfl, rfl⟩ := hp
        have hw : WD D A s.heap [(ax, .inr (5, [.ref t, .ref ga, .ref la, .ref wa, .ref pa])), (t, .inr (3, [.ref te, .ref ts, .int (nI n)])), (te, .inl (cI, 16, .inl (iA en))), (ts, .inl (cI, 17, .inl (iA st)))] H locs := hw1 rfl
        have he9 := hen (pr n i)
        refine lv_iload_n hx hb dX5_stops_46 rfl (lv_at hl 2 rfl) ?_
        refine x_callS (As := [.int (nI (en (pr n i))), .int (nI k9)]) (rest := []) X hw hl.1 (c_X5_has l D cI cZ (en (pr n i)) k9 (by first | assumption | omega) (by first | assumption | omega)) (va_cwS 2 hts gX5_stops_X5_has rfl rfl rfl (by decide +kernel) ⟨Nat.le_of_ble_eq_true rfl, Nat.le_of_ble_eq_true rfl⟩) [] rfl rfl rfl (Nat.le_of_ble_eq_true rfl) dX5_stops_47 (by decide) (fun r w1 H locs hp hw1 => ?_)
        obtain ⟨rfl, rfl⟩ := hp
        have hw : WD D A s.heap [(ax, .inr (5, [.ref t, .ref ga, .ref la, .ref wa, .ref pa])), (t, .inr (3, [.ref te, .ref ts, .int (nI n)])), (te, .inl (cI, 16, .inl (iA en))), (ts, .inl (cI, 17, .inl (iA st)))] H locs := hw1 rfl
        refine lv_if_eq (tgt := 55) hx hb dX5_stops_50 (by decide) (fun c_50 => ?_) (fun c_50 => ?_)
        · skip
          rw [q_b0] at c_50; try simp only [Bool.not_eq_false, Bool.not_eq_true] at c_50
          refine lv_iinc (v := nI (i + 1)) (lv' := [(2, .int (nI (i + 1))), (0, .ref ax), (1, .int (nI k9))]) hx hb dX5_stops_55 hl (k := 0) rfl (nI_add i 1) (by decide) rfl (fun ls hl => ?_)
          refine lv_goto (tgt := 27) hx hb dX5_stops_58 (by decide) ?_
          exact ih_27 (i + 1) (by show n - (i + 1) < n - i; omega) ⟨(show (i + 1) ≤ n from by omega), (show ∀ j, j < (i + 1) → (en (pr n j)).testBit k9 = false from lt_snoc (P := fun k => (en (pr n k)).testBit k9) hq c_50)⟩ _ _ _ hw (lv_sub hl [0, 1, 2] rfl)
        · skip
          rw [q_b0] at c_50; try simp only [Bool.not_eq_false, Bool.not_eq_true] at c_50
          refine lv_iload_n hx hb dX5_stops_53 rfl (lv_at hl 0 rfl) ?_
          exact x_iret X hw (⟨(by rw [gd2_t c_6, gd1_t hs, nc k9 (by omega), fsI_yes (P := fun k => (en (pr n k)).testBit k9) (k := i) (by omega) hq c_50]), rfl⟩) dX5_stops_54
    · skip
      rw [q_b0] at c_19; try simp only [Bool.not_eq_false, Bool.not_eq_true] at c_19
      have hs := of_decide_eq_false c_19
      refine lv_bipush (v := (-3)) hx hb dX5_stops_22 (by decide) ?_
      exact x_iret X hw (⟨(by rw [gd2_t c_6, gd1_f hs]), rfl⟩) dX5_stops_24
  · skip
    rw [q_b0] at c_6; try simp only [Bool.not_eq_false, Bool.not_eq_true] at c_6
    refine lv_bipush (v := (-2)) hx hb dX5_stops_9 (by decide) ?_
    exact x_iret X hw (⟨((gd2_f c_6).symm), rfl⟩) dX5_stops_11
set_option maxHeartbeats 4000000 in
set_option maxRecDepth 100000 in
theorem c_X5_explains (l : Launch) (D : va_G) (cI cZ : ClassId) (ax : Nat) (t : Nat) (ga : Nat) (la : Nat) (wa : Nat) (pa : Nat) (te : Nat) (ts : Nat) (en : Nat → Nat) (st : Nat → Nat) (n : Nat) (x : Int32) (hn : n ≤ 16) (hen : ∀ k, en k < 4096) (hst : ∀ k, st k < 64) : MI l D cI cZ yX5_explains wsX5_explains ({ frames := 4, cells := 0, slots := 0, locals := 82 }) [.ref ax, .int x] [(ax, .inr (5, [.ref t, .ref ga, .ref la, .ref wa, .ref pa])), (t, .inr (3, [.ref te, .ref ts, .int (nI n)])), (te, .inl (cI, 16, .inl (iA en))), (ts, .inl (cI, 17, .inl (iA st)))] (fun r w => r = (gd2 (bel x (nI n)) (fwC en st n) (nI (anN (en (pr n x.toNatClampNeg)) (exC en n x.toNatClampNeg)))) ∧ w = [(ax, .inr (5, [.ref t, .ref ga, .ref la, .ref wa, .ref pa])), (t, .inr (3, [.ref te, .ref ts, .int (nI n)])), (te, .inl (cI, 16, .inl (iA en))), (ts, .inl (cI, 17, .inl (iA st)))]) := by
  refine MI.of (cc := cX5_explains) (maxL := 4) (ret := (some .int)) (own := RX5) (by decide) rfl rfl (Nat.le_of_ble_eq_true rfl) ?_
  intro pQ eQ s mQ args below meth cQ A X hw ls hl
  obtain ⟨⟨hx, hb, hml, hown, hts⟩, hr, hlk, hK, hN, hA⟩ := id X
  have hl : lv_has ls 4 [(0, .ref ax), (1, .int x)] := hl
  have n5 : ∀ w ∈ wsX50, w ∈ wsX5_explains := by decide +kernel
  have f10 : FF args s RX5 wsX5_explains 10 5 0 := ⟨_, rfl, by decide, n5, hts (.fieldLink RX5 10 "AirSteps" "text" "LAirSteps$Text;") (by decide +kernel)⟩
  refine lv_iload_n hx hb dX5_explains_0 rfl (lv_at hl 1 rfl) ?_
  refine lv_aload_n hx hb dX5_explains_1 rfl (lv_at hl 0 rfl) ?_
  refine x_get X hw f10 0 rfl rfl dX5_explains_2 ?_
  refine x_callV (As := []) (rest := [.int x]) X hw hl.1 (c_X3_size l D cI cZ t te ts en st n ) (cwV 0 hts gX5_explains_X3_size rfl rfl rfl (by decide +kernel) ⟨Nat.le_of_ble_eq_true rfl, Nat.le_of_ble_eq_true rfl⟩) [1, 2, 3] rfl rfl 0 rfl rfl rfl rfl (Nat.le_of_ble_eq_true rfl) dX5_explains_5 (by decide) (fun r w1 H locs hp hw1 => ?_)
  obtain ⟨rfl, rfl⟩ := hp
  have hw : WD D A s.heap [(ax, .inr (5, [.ref t, .ref ga, .ref la, .ref wa, .ref pa])), (t, .inr (3, [.ref te, .ref ts, .int (nI n)])), (te, .inl (cI, 16, .inl (iA en))), (ts, .inl (cI, 17, .inl (iA st)))] H locs := hw1 rfl
  refine x_callS (As := [.int x, .int (nI n)]) (rest := []) X hw hl.1 (c_X5_isBelow l D cI cZ x (nI n) ) (va_cwS 2 hts gX5_explains_X5_isBelow rfl rfl rfl (by decide +kernel) ⟨Nat.le_of_ble_eq_true rfl, Nat.le_of_ble_eq_true rfl⟩) [] rfl rfl rfl (Nat.le_of_ble_eq_true rfl) dX5_explains_8 (by decide) (fun r w1 H locs hp hw1 => ?_)
  obtain ⟨rfl, rfl⟩ := hp
  have hw : WD D A s.heap [(ax, .inr (5, [.ref t, .ref ga, .ref la, .ref wa, .ref pa])), (t, .inr (3, [.ref te, .ref ts, .int (nI n)])), (te, .inl (cI, 16, .inl (iA en))), (ts, .inl (cI, 17, .inl (iA st)))] H locs := hw1 rfl
  refine lv_if_ne (tgt := 17) hx hb dX5_explains_11 (by decide) (fun c_11 => ?_) (fun c_11 => ?_)
  · skip
    rw [q_b0] at c_11; try simp only [Bool.not_eq_false, Bool.not_eq_true] at c_11
    obtain ⟨k9, hk9, rfl⟩ := bel_t (by omega) c_11
    refine lv_aload_n hx hb dX5_explains_17 rfl (lv_at hl 0 rfl) ?_
    refine x_get X hw f10 0 rfl rfl dX5_explains_18 ?_
    refine x_callV (As := []) (rest := []) X hw hl.1 (c_X3_isSound l D cI cZ t te ts en st n (by first | assumption | omega) (by first | assumption | omega) (by first | assumption | omega)) (cwV 0 hts gX5_explains_X3_isSound rfl rfl rfl (by decide +kernel) ⟨Nat.le_of_ble_eq_true rfl, Nat.le_of_ble_eq_true rfl⟩) [1, 2, 3] rfl rfl 0 rfl rfl rfl rfl (Nat.le_of_ble_eq_true rfl) dX5_explains_21 (by decide) (fun r w1 H locs hp hw1 => ?_)
    obtain ⟨rfl, rfl⟩ := hp
    have hw : WD D A s.heap [(ax, .inr (5, [.ref t, .ref ga, .ref la, .ref wa, .ref pa])), (t, .inr (3, [.ref te, .ref ts, .int (nI n)])), (te, .inl (cI, 16, .inl (iA en))), (ts, .inl (cI, 17, .inl (iA st)))] H locs := hw1 rfl
    refine lv_if_ne (tgt := 30) hx hb dX5_explains_24 (by decide) (fun c_24 => ?_) (fun c_24 => ?_)
    · skip
      rw [q_b0] at c_24; try simp only [Bool.not_eq_false, Bool.not_eq_true] at c_24
      have hs := of_decide_eq_true c_24
      have hn0 := fwC_pos hs
      refine lv_iconst (v := nI 0) hx hb dX5_explains_30 (by decide) ?_
      refine lv_istore_n (lv' := [(2, .int (nI 0)), (0, .ref ax), (1, .int (nI k9))]) hx hb dX5_explains_31 rfl hl (by decide) rfl (fun ls hl => ?_)
      refine lv_iconst (v := nI 0) hx hb dX5_explains_32 (by decide) ?_
      refine lv_istore_n (lv' := [(3, .int (nI 0)), (2, .int (nI 0)), (0, .ref ax), (1, .int (nI k9))]) hx hb dX5_explains_33 rfl hl (by decide) rfl (fun ls hl => ?_)
      refine wl (α := Nat × Nat) (nL := 4) (fun aQ => k9 - aQ.2) (fun aQ => (aQ.2 ≤ k9) ∧ (aQ.1 = exC en n aQ.2)) (fun aQ => [(ax, .inr (5, [.ref t, .ref ga, .ref la, .ref wa, .ref pa])), (t, .inr (3, [.ref te, .ref ts, .int (nI n)])), (te, .inl (cI, 16, .inl (iA en))), (ts, .inl (cI, 17, .inl (iA st)))]) (fun aQ => [(3, .int (nI aQ.2)), (2, .int (nI aQ.1)), (0, .ref ax), (1, .int (nI k9))]) ?_ (0, 0) ⟨(show 0 ≤ k9 from by omega), (show 0 = exC en n 0 from rfl)⟩ _ _ _ hw (lv_sub hl [0, 1, 2, 3] rfl)
      rintro ⟨a, i⟩ ⟨hi, ha⟩ H locs ls hw hl ih_34
      have hi : i ≤ k9 := hi
      have ha : a = exC en n i := ha
      have hw : WD D A s.heap [(ax, .inr (5, [.ref t, .ref ga, .ref la, .ref wa, .ref pa])), (t, .inr (3, [.ref te, .ref ts, .int (nI n)])), (te, .inl (cI, 16, .inl (iA en))), (ts, .inl (cI, 17, .inl (iA st)))] H locs := hw
      have hl : lv_has ls 4 [(3, .int (nI i)), (2, .int (nI a)), (0, .ref ax), (1, .int (nI k9))] := hl
      refine lv_iload_n hx hb dX5_explains_34 rfl (lv_at hl 0 rfl) ?_
      refine lv_iload_n hx hb dX5_explains_35 rfl (lv_at hl 3 rfl) ?_
      refine lv_icmp_ge (tgt := 56) hx hb dX5_explains_36 (by decide) (fun c_36 => ?_) (fun c_36 => ?_)
      · skip
        rw [nI_leI (by omega) (by omega)] at c_36
        refine lv_aload_n hx hb dX5_explains_56 rfl (lv_at hl 2 rfl) ?_
        refine x_get X hw f10 0 rfl rfl dX5_explains_57 ?_
        refine lv_iload_n hx hb dX5_explains_60 rfl (lv_at hl 3 rfl) ?_
        refine x_callV (As := [.int (nI k9)]) (rest := []) X hw hl.1 (c_X3_trigger l D cI cZ t te ts en st n k9 (by first | assumption | omega) (by first | assumption | omega) (by first | assumption | omega) (by first | assumption | omega)) (cwV 1 hts gX5_explains_X3_trigger rfl rfl rfl (by decide +kernel) ⟨Nat.le_of_ble_eq_true rfl, Nat.le_of_ble_eq_true rfl⟩) [1, 2, 3] rfl rfl 0 rfl rfl rfl rfl (Nat.le_of_ble_eq_true rfl) dX5_explains_61 (by decide) (fun r w1 H locs hp hw1 => ?_)
        obtain ⟨rfl, rfl⟩ := hp
        have hw : WD D A s.heap [(ax, .inr (5, [.ref t, .ref ga, .ref la, .ref wa, .ref pa])), (t, .inr (3, [.ref te, .ref ts, .int (nI n)])), (te, .inl (cI, 16, .inl (iA en))), (ts, .inl (cI, 17, .inl (iA st)))] H locs := hw1 rfl
        refine lv_iload_n hx hb dX5_explains_64 rfl (lv_at hl 1 rfl) ?_
        refine lv_iconst (v := (-1)) hx hb dX5_explains_65 (by decide) ?_
        refine lv_ixor hx hb dX5_explains_66 ?_
        refine lv_iand hx hb dX5_explains_67 ?_
        refine cv_i (show nI (en (pr n k9)) &&& (nI a ^^^ (-1 : Int32)) = nI (anN (en (pr n k9)) a) from q_anR (en (pr n k9)) a) ?_
        exact x_iret X hw (⟨(by rw [gd2_t c_11, gd1_t hs, nc k9 (by omega), ha, show i = k9 by omega]), rfl⟩) dX5_explains_68
      · skip
        rw [nI_leI (by omega) (by omega)] at c_36
        refine lv_iload_n hx hb dX5_explains_39 rfl (lv_at hl 1 rfl) ?_
        refine lv_aload_n hx hb dX5_explains_40 rfl (lv_at hl 2 rfl) ?_
        refine x_get X hw f10 0 rfl rfl dX5_explains_41 ?_
        refine lv_iload_n hx hb dX5_explains_44 rfl (lv_at hl 0 rfl) ?_
        refine x_callV (As := [.int (nI i)]) (rest := [.int (nI a)]) X hw hl.1 (c_X3_trigger l D cI cZ t te ts en st n i (by first | assumption | omega) (by first | assumption | omega) (by first | assumption | omega) (by first | assumption | omega)) (cwV 1 hts gX5_explains_X3_trigger rfl rfl rfl (by decide +kernel) ⟨Nat.le_of_ble_eq_true rfl, Nat.le_of_ble_eq_true rfl⟩) [1, 2, 3] rfl rfl 0 rfl rfl rfl rfl (Nat.le_of_ble_eq_true rfl) dX5_explains_45 (by decide) (fun r w1 H locs hp hw1 => ?_)
        obtain ⟨rfl, rfl⟩ := hp
        have hw : WD D A s.heap [(ax, .inr (5, [.ref t, .ref ga, .ref la, .ref wa, .ref pa])), (t, .inr (3, [.ref te, .ref ts, .int (nI n)])), (te, .inl (cI, 16, .inl (iA en))), (ts, .inl (cI, 17, .inl (iA st)))] H locs := hw1 rfl
        refine lv_ior hx hb dX5_explains_48 ?_
        refine cv_i (show nI a ||| nI (en (pr n i)) = nI (a ||| (en (pr n i))) from q_or a (en (pr n i))) ?_
        refine lv_istore_n (lv' := [(2, .int (nI (a ||| (en (pr n i))))), (3, .int (nI i)), (0, .ref ax), (1, .int (nI k9))]) hx hb dX5_explains_49 rfl hl (by decide) rfl (fun ls hl => ?_)
        refine lv_iinc (v := nI (i + 1)) (lv' := [(3, .int (nI (i + 1))), (2, .int (nI (a ||| (en (pr n i))))), (0, .ref ax), (1, .int (nI k9))]) hx hb dX5_explains_50 hl (k := 1) rfl (nI_add i 1) (by decide) rfl (fun ls hl => ?_)
        refine lv_goto (tgt := 34) hx hb dX5_explains_53 (by decide) ?_
        exact ih_34 (a ||| (en (pr n i)), i + 1) (by show k9 - (i + 1) < k9 - i; omega) ⟨(show (i + 1) ≤ k9 from by omega), (show (a ||| (en (pr n i))) = exC en n (i + 1) from by rw [ha]; rfl)⟩ _ _ _ hw (lv_sub hl [0, 1, 2, 3] rfl)
    · skip
      rw [q_b0] at c_24; try simp only [Bool.not_eq_false, Bool.not_eq_true] at c_24
      have hs := of_decide_eq_false c_24
      refine lv_bipush (v := (-3)) hx hb dX5_explains_27 (by decide) ?_
      exact x_iret X hw (⟨(by rw [gd2_t c_11, gd1_f hs]), rfl⟩) dX5_explains_29
  · skip
    rw [q_b0] at c_11; try simp only [Bool.not_eq_false, Bool.not_eq_true] at c_11
    refine lv_bipush (v := (-2)) hx hb dX5_explains_14 (by decide) ?_
    exact x_iret X hw (⟨((gd2_f c_11).symm), rfl⟩) dX5_explains_16
set_option maxHeartbeats 4000000 in
set_option maxRecDepth 100000 in
theorem c_X5_count (l : Launch) (D : va_G) (cI cZ : ClassId) (ax : Nat) (t : Nat) (ga : Nat) (la : Nat) (wa : Nat) (pa : Nat) (te : Nat) (ts : Nat) (en : Nat → Nat) (st : Nat → Nat) (n : Nat) (lb : Nat) (lw : Nat) (ba : Nat → Nat) (wh : Nat → Nat) (nl : Nat) (x : Int32) (hn : n ≤ 16) (hen : ∀ k, en k < 4096) (hst : ∀ k, st k < 64) : MI l D cI cZ yX5_count wsX5_count ({ frames := 2, cells := 0, slots := 0, locals := 42 }) [.ref ax, .int x] [(ax, .inr (5, [.ref t, .ref ga, .ref la, .ref wa, .ref pa])), (t, .inr (3, [.ref te, .ref ts, .int (nI n)])), (te, .inl (cI, 16, .inl (iA en))), (ts, .inl (cI, 17, .inl (iA st))), (la, .inr (1, [.ref lb, .ref lw, .int (nI nl)])), (lb, .inl (cI, 12, .inl (iA ba))), (lw, .inl (cI, 12, .inl (iA wh)))] (fun r w => r = (if x = 0 then nI n else if x = nI 1 then nI nl else if x = nI 2 then nI (mvs en n) else -2) ∧ w = [(ax, .inr (5, [.ref t, .ref ga, .ref la, .ref wa, .ref pa])), (t, .inr (3, [.ref te, .ref ts, .int (nI n)])), (te, .inl (cI, 16, .inl (iA en))), (ts, .inl (cI, 17, .inl (iA st))), (la, .inr (1, [.ref lb, .ref lw, .int (nI nl)])), (lb, .inl (cI, 12, .inl (iA ba))), (lw, .inl (cI, 12, .inl (iA wh)))]) := by
  refine MI.of (cc := cX5_count) (maxL := 2) (ret := (some .int)) (own := RX5) (by decide) rfl rfl (Nat.le_of_ble_eq_true rfl) ?_
  intro pQ eQ s mQ args below meth cQ A X hw ls hl
  obtain ⟨⟨hx, hb, hml, hown, hts⟩, hr, hlk, hK, hN, hA⟩ := id X
  have hl : lv_has ls 2 [(0, .ref ax), (1, .int x)] := hl
  have n5 : ∀ w ∈ wsX50, w ∈ wsX5_count := by decide +kernel
  have f10 : FF args s RX5 wsX5_count 10 5 0 := ⟨_, rfl, by decide, n5, hts (.fieldLink RX5 10 "AirSteps" "text" "LAirSteps$Text;") (by decide +kernel)⟩
  have f26 : FF args s RX5 wsX5_count 26 5 2 := ⟨_, rfl, by decide, n5, hts (.fieldLink RX5 26 "AirSteps" "laws" "LAirSteps$Laws;") (by decide +kernel)⟩
  refine lv_iload_n hx hb dX5_count_0 rfl (lv_at hl 1 rfl) ?_
  refine lv_if_ne (tgt := 12) hx hb dX5_count_1 (by decide) (fun c_1 => ?_) (fun c_1 => ?_)
  · skip
    refine lv_iload_n hx hb dX5_count_12 rfl (lv_at hl 1 rfl) ?_
    refine lv_iconst (v := nI 1) hx hb dX5_count_13 (by decide) ?_
    refine lv_icmp_ne (tgt := 25) hx hb dX5_count_14 (by decide) (fun c_14 => ?_) (fun c_14 => ?_)
    · skip
      refine lv_iload_n hx hb dX5_count_25 rfl (lv_at hl 1 rfl) ?_
      refine lv_iconst (v := nI 2) hx hb dX5_count_26 (by decide) ?_
      refine lv_icmp_ne (tgt := 38) hx hb dX5_count_27 (by decide) (fun c_27 => ?_) (fun c_27 => ?_)
      · skip
        refine lv_bipush (v := (-2)) hx hb dX5_count_38 (by decide) ?_
        exact x_iret X hw (⟨(by rw [if_neg c_1, if_neg c_14, if_neg c_27]), rfl⟩) dX5_count_40
      · skip
        refine lv_aload_n hx hb dX5_count_30 rfl (lv_at hl 0 rfl) ?_
        refine x_get X hw f10 0 rfl rfl dX5_count_31 ?_
        refine x_callV (As := []) (rest := []) X hw hl.1 (c_X3_moves l D cI cZ t te ts en st n (by first | assumption | omega) (by first | assumption | omega) (by first | assumption | omega)) (cwV 0 hts gX5_count_X3_moves rfl rfl rfl (by decide +kernel) ⟨Nat.le_of_ble_eq_true rfl, Nat.le_of_ble_eq_true rfl⟩) [1, 2, 3] rfl rfl 0 rfl rfl rfl rfl (Nat.le_of_ble_eq_true rfl) dX5_count_34 (by decide) (fun r w1 H locs hp hw1 => ?_)
        obtain ⟨rfl, rfl⟩ := hp
        have hw : WD D A s.heap [(ax, .inr (5, [.ref t, .ref ga, .ref la, .ref wa, .ref pa])), (t, .inr (3, [.ref te, .ref ts, .int (nI n)])), (te, .inl (cI, 16, .inl (iA en))), (ts, .inl (cI, 17, .inl (iA st))), (la, .inr (1, [.ref lb, .ref lw, .int (nI nl)])), (lb, .inl (cI, 12, .inl (iA ba))), (lw, .inl (cI, 12, .inl (iA wh)))] H locs := hw1 rfl
        exact x_iret X hw (⟨(by rw [if_neg c_1, if_neg c_14, if_pos c_27]), rfl⟩) dX5_count_37
    · skip
      refine lv_aload_n hx hb dX5_count_17 rfl (lv_at hl 0 rfl) ?_
      refine x_get X hw f26 0 rfl rfl dX5_count_18 ?_
      refine x_callV (As := []) (rest := []) X hw hl.1 (c_X1_size l D cI cZ la lb lw ba wh nl ) (cwV 0 hts gX5_count_X1_size rfl rfl rfl (by decide +kernel) ⟨Nat.le_of_ble_eq_true rfl, Nat.le_of_ble_eq_true rfl⟩) [4, 5, 6] rfl rfl 0 rfl rfl rfl rfl (Nat.le_of_ble_eq_true rfl) dX5_count_21 (by decide) (fun r w1 H locs hp hw1 => ?_)
      obtain ⟨rfl, rfl⟩ := hp
      have hw : WD D A s.heap [(ax, .inr (5, [.ref t, .ref ga, .ref la, .ref wa, .ref pa])), (t, .inr (3, [.ref te, .ref ts, .int (nI n)])), (te, .inl (cI, 16, .inl (iA en))), (ts, .inl (cI, 17, .inl (iA st))), (la, .inr (1, [.ref lb, .ref lw, .int (nI nl)])), (lb, .inl (cI, 12, .inl (iA ba))), (lw, .inl (cI, 12, .inl (iA wh)))] H locs := hw1 rfl
      exact x_iret X hw (⟨(by rw [if_neg c_1, if_pos c_14]), rfl⟩) dX5_count_24
  · skip
    refine lv_aload_n hx hb dX5_count_4 rfl (lv_at hl 0 rfl) ?_
    refine x_get X hw f10 0 rfl rfl dX5_count_5 ?_
    refine x_callV (As := []) (rest := []) X hw hl.1 (c_X3_size l D cI cZ t te ts en st n ) (cwV 0 hts gX5_count_X3_size rfl rfl rfl (by decide +kernel) ⟨Nat.le_of_ble_eq_true rfl, Nat.le_of_ble_eq_true rfl⟩) [1, 2, 3] rfl rfl 0 rfl rfl rfl rfl (Nat.le_of_ble_eq_true rfl) dX5_count_8 (by decide) (fun r w1 H locs hp hw1 => ?_)
    obtain ⟨rfl, rfl⟩ := hp
    have hw : WD D A s.heap [(ax, .inr (5, [.ref t, .ref ga, .ref la, .ref wa, .ref pa])), (t, .inr (3, [.ref te, .ref ts, .int (nI n)])), (te, .inl (cI, 16, .inl (iA en))), (ts, .inl (cI, 17, .inl (iA st))), (la, .inr (1, [.ref lb, .ref lw, .int (nI nl)])), (lb, .inl (cI, 12, .inl (iA ba))), (lw, .inl (cI, 12, .inl (iA wh)))] H locs := hw1 rfl
    exact x_iret X hw (⟨(by rw [if_pos c_1]), rfl⟩) dX5_count_11
