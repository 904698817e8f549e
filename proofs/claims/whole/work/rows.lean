section
-- ===== PART A: goes FIRST, ahead of the names: the tables' words, and 'selects' of the private methods out of them =====
/-- a private method of a class that the tables say can be made, by its rows of tables_1 -/
def lw_okq (q : MethodName × Nat) : Prop := (q.1.cls ≠ "java/lang/invoke/MethodHandle" ∧ q.1.cls ≠ "java/lang/invoke/VarHandle") ∧ Cond.instantiable q.1.cls q.2 ∈ tables_1 ∧ Cond.privateMethod q.1 ∈ tables_1 ∧ Cond.instanceMethod q.1 ∈ tables_1
theorem lw_p0 : lw_okq (⟨"AirSteps", "firstClash", "(I)I"⟩, 5) := ⟨⟨by decide +kernel, by decide +kernel⟩, List.mem_of_getElem? (i := 11) (by decide +kernel), List.mem_of_getElem? (i := 175) (by decide +kernel), List.mem_of_getElem? (i := 176) (by decide +kernel)⟩
theorem lw_p1 : lw_okq (⟨"AirSteps$Groups", "needsFrom", "(LAirSteps$Text;I)I"⟩, 3) := ⟨⟨by decide +kernel, by decide +kernel⟩, List.mem_of_getElem? (i := 36) (by decide +kernel), List.mem_of_getElem? (i := 184) (by decide +kernel), List.mem_of_getElem? (i := 185) (by decide +kernel)⟩
theorem lw_p2 : lw_okq (⟨"AirSteps$Groups", "need", "(LAirSteps$Text;II)I"⟩, 3) := ⟨⟨by decide +kernel, by decide +kernel⟩, List.mem_of_getElem? (i := 36) (by decide +kernel), List.mem_of_getElem? (i := 188) (by decide +kernel), List.mem_of_getElem? (i := 189) (by decide +kernel)⟩
theorem lw_p3 : lw_okq (⟨"AirSteps$Groups", "collect", "(II)V"⟩, 3) := ⟨⟨by decide +kernel, by decide +kernel⟩, List.mem_of_getElem? (i := 36) (by decide +kernel), List.mem_of_getElem? (i := 208) (by decide +kernel), List.mem_of_getElem? (i := 209) (by decide +kernel)⟩
theorem lw_p4 : lw_okq (⟨"AirSteps", "clashing", "(II)I"⟩, 5) := ⟨⟨by decide +kernel, by decide +kernel⟩, List.mem_of_getElem? (i := 11) (by decide +kernel), List.mem_of_getElem? (i := 212) (by decide +kernel), List.mem_of_getElem? (i := 213) (by decide +kernel)⟩
theorem lw_p5 : lw_okq (⟨"AirSteps", "isPushed", "(III)Z"⟩, 5) := ⟨⟨by decide +kernel, by decide +kernel⟩, List.mem_of_getElem? (i := 11) (by decide +kernel), List.mem_of_getElem? (i := 216) (by decide +kernel), List.mem_of_getElem? (i := 217) (by decide +kernel)⟩
theorem lw_p6 : lw_okq (⟨"AirSteps$Text", "alike", "(I)I"⟩, 3) := ⟨⟨by decide +kernel, by decide +kernel⟩, List.mem_of_getElem? (i := 19) (by decide +kernel), List.mem_of_getElem? (i := 270) (by decide +kernel), List.mem_of_getElem? (i := 271) (by decide +kernel)⟩
theorem lw_p7 : lw_okq (⟨"AirSteps$Ways", "reachBack", "(LAirSteps$Laws;II)I"⟩, 2) := ⟨⟨by decide +kernel, by decide +kernel⟩, List.mem_of_getElem? (i := 68) (by decide +kernel), List.mem_of_getElem? (i := 331) (by decide +kernel), List.mem_of_getElem? (i := 332) (by decide +kernel)⟩
theorem lw_p8 : lw_okq (⟨"AirSteps$Ways", "nextCylinder", "(LAirSteps$Laws;I)I"⟩, 2) := ⟨⟨by decide +kernel, by decide +kernel⟩, List.mem_of_getElem? (i := 68) (by decide +kernel), List.mem_of_getElem? (i := 382) (by decide +kernel), List.mem_of_getElem? (i := 383) (by decide +kernel)⟩
theorem lw_p9 : lw_okq (⟨"AirStepsModel", "isStep", "(I)Z"⟩, 13) := ⟨⟨by decide +kernel, by decide +kernel⟩, List.mem_of_getElem? (i := 404) (by decide +kernel), List.mem_of_getElem? (i := 470) (by decide +kernel), List.mem_of_getElem? (i := 471) (by decide +kernel)⟩
theorem lw_p10 : lw_okq (⟨"AirStepsModel", "isSound", "()Z"⟩, 13) := ⟨⟨by decide +kernel, by decide +kernel⟩, List.mem_of_getElem? (i := 404) (by decide +kernel), List.mem_of_getElem? (i := 474) (by decide +kernel), List.mem_of_getElem? (i := 475) (by decide +kernel)⟩
theorem lw_p11 : lw_okq (⟨"AirStepsModel", "firstClash", "(I)I"⟩, 13) := ⟨⟨by decide +kernel, by decide +kernel⟩, List.mem_of_getElem? (i := 404) (by decide +kernel), List.mem_of_getElem? (i := 483) (by decide +kernel), List.mem_of_getElem? (i := 484) (by decide +kernel)⟩
theorem lw_p12 : lw_okq (⟨"AirStepsModel", "findCuts", "()V"⟩, 13) := ⟨⟨by decide +kernel, by decide +kernel⟩, List.mem_of_getElem? (i := 404) (by decide +kernel), List.mem_of_getElem? (i := 487) (by decide +kernel), List.mem_of_getElem? (i := 488) (by decide +kernel)⟩
theorem lw_p13 : lw_okq (⟨"AirStepsModel", "mayCut", "(I)Z"⟩, 13) := ⟨⟨by decide +kernel, by decide +kernel⟩, List.mem_of_getElem? (i := 404) (by decide +kernel), List.mem_of_getElem? (i := 497) (by decide +kernel), List.mem_of_getElem? (i := 498) (by decide +kernel)⟩
theorem lw_p14 : lw_okq (⟨"AirStepsModel", "clashAt", "(II)I"⟩, 13) := ⟨⟨by decide +kernel, by decide +kernel⟩, List.mem_of_getElem? (i := 404) (by decide +kernel), List.mem_of_getElem? (i := 501) (by decide +kernel), List.mem_of_getElem? (i := 502) (by decide +kernel)⟩
theorem lw_p15 : lw_okq (⟨"AirStepsModel", "isPushed", "(III)Z"⟩, 13) := ⟨⟨by decide +kernel, by decide +kernel⟩, List.mem_of_getElem? (i := 404) (by decide +kernel), List.mem_of_getElem? (i := 505) (by decide +kernel), List.mem_of_getElem? (i := 506) (by decide +kernel)⟩
def lw_privs_1 : List (MethodName × Nat) := [(⟨"AirSteps", "firstClash", "(I)I"⟩, 5), (⟨"AirSteps$Groups", "needsFrom", "(LAirSteps$Text;I)I"⟩, 3), (⟨"AirSteps$Groups", "need", "(LAirSteps$Text;II)I"⟩, 3), (⟨"AirSteps$Groups", "collect", "(II)V"⟩, 3), (⟨"AirSteps", "clashing", "(II)I"⟩, 5), (⟨"AirSteps", "isPushed", "(III)Z"⟩, 5), (⟨"AirSteps$Text", "alike", "(I)I"⟩, 3), (⟨"AirSteps$Ways", "reachBack", "(LAirSteps$Laws;II)I"⟩, 2), (⟨"AirSteps$Ways", "nextCylinder", "(LAirSteps$Laws;I)I"⟩, 2), (⟨"AirStepsModel", "isStep", "(I)Z"⟩, 13), (⟨"AirStepsModel", "isSound", "()Z"⟩, 13), (⟨"AirStepsModel", "firstClash", "(I)I"⟩, 13), (⟨"AirStepsModel", "findCuts", "()V"⟩, 13), (⟨"AirStepsModel", "mayCut", "(I)Z"⟩, 13), (⟨"AirStepsModel", "clashAt", "(II)I"⟩, 13), (⟨"AirStepsModel", "isPushed", "(III)Z"⟩, 13)]
theorem lw_r1 : ∀ q ∈ lw_privs_1, lw_okq q := List.forall_mem_cons.mpr ⟨lw_p0, List.forall_mem_cons.mpr ⟨lw_p1, List.forall_mem_cons.mpr ⟨lw_p2, List.forall_mem_cons.mpr ⟨lw_p3, List.forall_mem_cons.mpr ⟨lw_p4, List.forall_mem_cons.mpr ⟨lw_p5, List.forall_mem_cons.mpr ⟨lw_p6, List.forall_mem_cons.mpr ⟨lw_p7, List.forall_mem_cons.mpr ⟨lw_p8, List.forall_mem_cons.mpr ⟨lw_p9, List.forall_mem_cons.mpr ⟨lw_p10, List.forall_mem_cons.mpr ⟨lw_p11, List.forall_mem_cons.mpr ⟨lw_p12, List.forall_mem_cons.mpr ⟨lw_p13, List.forall_mem_cons.mpr ⟨lw_p14, List.forall_mem_cons.mpr ⟨lw_p15, fun _ h => absurd h List.not_mem_nil⟩⟩⟩⟩⟩⟩⟩⟩⟩⟩⟩⟩⟩⟩⟩⟩
theorem lw_p16 : lw_okq (⟨"AirStepsModel", "isOn", "(II)Z"⟩, 13) := ⟨⟨by decide +kernel, by decide +kernel⟩, List.mem_of_getElem? (i := 404) (by decide +kernel), List.mem_of_getElem? (i := 509) (by decide +kernel), List.mem_of_getElem? (i := 510) (by decide +kernel)⟩
theorem lw_p17 : lw_okq (⟨"AirStepsModel", "ahead", "(I)I"⟩, 13) := ⟨⟨by decide +kernel, by decide +kernel⟩, List.mem_of_getElem? (i := 404) (by decide +kernel), List.mem_of_getElem? (i := 513) (by decide +kernel), List.mem_of_getElem? (i := 514) (by decide +kernel)⟩
theorem lw_p18 : lw_okq (⟨"AirStepsModel", "beginOf", "(I)I"⟩, 13) := ⟨⟨by decide +kernel, by decide +kernel⟩, List.mem_of_getElem? (i := 404) (by decide +kernel), List.mem_of_getElem? (i := 517) (by decide +kernel), List.mem_of_getElem? (i := 518) (by decide +kernel)⟩
theorem lw_p19 : lw_okq (⟨"AirStepsModel", "greatestOf", "(I[I)I"⟩, 13) := ⟨⟨by decide +kernel, by decide +kernel⟩, List.mem_of_getElem? (i := 404) (by decide +kernel), List.mem_of_getElem? (i := 548) (by decide +kernel), List.mem_of_getElem? (i := 549) (by decide +kernel)⟩
theorem lw_p20 : lw_okq (⟨"AirStepsModel", "breaks", "(III)Z"⟩, 13) := ⟨⟨by decide +kernel, by decide +kernel⟩, List.mem_of_getElem? (i := 404) (by decide +kernel), List.mem_of_getElem? (i := 564) (by decide +kernel), List.mem_of_getElem? (i := 565) (by decide +kernel)⟩
theorem lw_p21 : lw_okq (⟨"AirStepsModel", "layWays", "()V"⟩, 13) := ⟨⟨by decide +kernel, by decide +kernel⟩, List.mem_of_getElem? (i := 404) (by decide +kernel), List.mem_of_getElem? (i := 572) (by decide +kernel), List.mem_of_getElem? (i := 573) (by decide +kernel)⟩
theorem lw_p22 : lw_okq (⟨"AirStepsModel", "mayMove", "(II)Z"⟩, 13) := ⟨⟨by decide +kernel, by decide +kernel⟩, List.mem_of_getElem? (i := 404) (by decide +kernel), List.mem_of_getElem? (i := 576) (by decide +kernel), List.mem_of_getElem? (i := 577) (by decide +kernel)⟩
theorem lw_p23 : lw_okq (⟨"AirStepsModel", "stopOf", "(I)I"⟩, 13) := ⟨⟨by decide +kernel, by decide +kernel⟩, List.mem_of_getElem? (i := 404) (by decide +kernel), List.mem_of_getElem? (i := 588) (by decide +kernel), List.mem_of_getElem? (i := 589) (by decide +kernel)⟩
theorem lw_p24 : lw_okq (⟨"AirStepsModel", "has", "(II)Z"⟩, 13) := ⟨⟨by decide +kernel, by decide +kernel⟩, List.mem_of_getElem? (i := 404) (by decide +kernel), List.mem_of_getElem? (i := 592) (by decide +kernel), List.mem_of_getElem? (i := 593) (by decide +kernel)⟩
def lw_privs_2 : List (MethodName × Nat) := [(⟨"AirStepsModel", "isOn", "(II)Z"⟩, 13), (⟨"AirStepsModel", "ahead", "(I)I"⟩, 13), (⟨"AirStepsModel", "beginOf", "(I)I"⟩, 13), (⟨"AirStepsModel", "greatestOf", "(I[I)I"⟩, 13), (⟨"AirStepsModel", "breaks", "(III)Z"⟩, 13), (⟨"AirStepsModel", "layWays", "()V"⟩, 13), (⟨"AirStepsModel", "mayMove", "(II)Z"⟩, 13), (⟨"AirStepsModel", "stopOf", "(I)I"⟩, 13), (⟨"AirStepsModel", "has", "(II)Z"⟩, 13)]
theorem lw_r2 : ∀ q ∈ lw_privs_2, lw_okq q := List.forall_mem_cons.mpr ⟨lw_p16, List.forall_mem_cons.mpr ⟨lw_p17, List.forall_mem_cons.mpr ⟨lw_p18, List.forall_mem_cons.mpr ⟨lw_p19, List.forall_mem_cons.mpr ⟨lw_p20, List.forall_mem_cons.mpr ⟨lw_p21, List.forall_mem_cons.mpr ⟨lw_p22, List.forall_mem_cons.mpr ⟨lw_p23, List.forall_mem_cons.mpr ⟨lw_p24, fun _ h => absurd h List.not_mem_nil⟩⟩⟩⟩⟩⟩⟩⟩⟩
def lw_privs : List (MethodName × Nat) := lw_privs_1 ++ (lw_privs_2)
def lw_tbl : List Cond := k2_sels lw_privs ++ tables_1
theorem lw_privs_ok : ∀ q ∈ lw_privs, lw_okq q := by
  show ∀ q ∈ lw_privs_1 ++ (lw_privs_2), lw_okq q
  exact List.forall_mem_append.mpr ⟨lw_r1, lw_r2⟩
end
section
/-! ===== BEGIN words of one list among another's, by their places ===== -/
theorem goodIn_r {big : List Cond} (ws : List Cond) (ps : List Nat) (hp : ws = ps.filterMap (fun i => big[i]?)) (h : ws.all goodWord = true) : GoodIn big ws := by
  intro w hw
  have h1 := List.all_eq_true.mp h w hw
  rw [hp] at hw
  obtain ⟨i, -, hi⟩ := List.mem_filterMap.mp hw
  have hm : w ∈ big := by first | exact List.mem_of_getElem? hi | exact List.getElem?_mem hi
  exact ⟨hm, good_of_word h1⟩
theorem goodIn_app {big a b : List Cond} (ha : GoodIn big a) (hb : GoodIn big b) : GoodIn big (a ++ b) := fun w h => (List.mem_append.mp h).elim (ha w) (hb w)
theorem goodIn_ca {big a b : List Cond} {c : Cond} (ha : GoodIn big (c :: a)) (hb : GoodIn big b) : GoodIn big (c :: (a ++ b)) := fun w h => (List.mem_cons.mp h).elim (fun e => ha w (List.mem_cons.mpr (Or.inl e))) (fun h => (List.mem_append.mp h).elim (fun h => ha w (List.mem_cons.mpr (Or.inr h))) (hb w))
theorem goodIn_sub {big ws : List Cond} (hm : ∀ w ∈ ws, w ∈ big) (h : ws.all goodWord = true) : GoodIn big ws := fun w hw => ⟨hm w hw, good_of_word (List.all_eq_true.mp h w hw)⟩
/-! ===== END ===== -/

/-! ===== BEGIN printed: names, fields, word lists, decode rows ===== -/
def RX0 : String := "AirSteps$Groups"
def TX0 : u_T := fun k => match k with
  | 0 => ("AirSteps$Groups", "cuts", "[I", true)
  | 1 => ("AirSteps$Groups", "needs", "[I", true)
  | _ => ("AirSteps$Groups", "size", "I", false)
def tyX0 : Nat → FieldType := fun k => match k with
  | 0 => .array .int
  | 1 => .array .int
  | _ => .int
abbrev wsX00 : List Cond := u_ws RX0 TX0 3
theorem nmX0 : ∀ a, a < 3 → ∀ b, b < 3 → a ≠ b → (TX0 a).2.1 ≠ (TX0 b).2.1 := by decide +kernel
theorem tyX0_ok : ∀ k, k < 3 → parseFieldDescriptor (TX0 k).2.2.1 = some (tyX0 k) := by decide +kernel
abbrev cX0_init : ByteArray := prog_2_method_1_code
def yX0_init : MethodName := ⟨RX0, "<init>", "()V"⟩
abbrev cX0_size : ByteArray := prog_2_method_2_code
def yX0_size : MethodName := ⟨RX0, "size", "()I"⟩
abbrev cX0_cutAt : ByteArray := prog_2_method_3_code
def yX0_cutAt : MethodName := ⟨RX0, "cutAt", "(I)I"⟩
abbrev cX0_find : ByteArray := prog_2_method_4_code
def yX0_find : MethodName := ⟨RX0, "find", "(LAirSteps$Text;)V"⟩
abbrev cX0_needsFrom : ByteArray := prog_2_method_5_code
def yX0_needsFrom : MethodName := ⟨RX0, "needsFrom", "(LAirSteps$Text;I)I"⟩
abbrev cX0_need : ByteArray := prog_2_method_6_code
def yX0_need : MethodName := ⟨RX0, "need", "(LAirSteps$Text;II)I"⟩
abbrev cX0_collect : ByteArray := prog_2_method_7_code
def yX0_collect : MethodName := ⟨RX0, "collect", "(II)V"⟩
abbrev cX0_groupOf : ByteArray := prog_2_method_8_code
def yX0_groupOf : MethodName := ⟨RX0, "groupOf", "(I)I"⟩
abbrev cX0_isFirst : ByteArray := prog_2_method_9_code
def yX0_isFirst : MethodName := ⟨RX0, "isFirst", "(I)Z"⟩
def RX1 : String := "AirSteps$Laws"
def TX1 : u_T := fun k => match k with
  | 0 => ("AirSteps$Laws", "barred", "[I", true)
  | 1 => ("AirSteps$Laws", "whileAt", "[I", true)
  | _ => ("AirSteps$Laws", "size", "I", false)
def tyX1 : Nat → FieldType := fun k => match k with
  | 0 => .array .int
  | 1 => .array .int
  | _ => .int
abbrev wsX10 : List Cond := u_ws RX1 TX1 3
theorem nmX1 : ∀ a, a < 3 → ∀ b, b < 3 → a ≠ b → (TX1 a).2.1 ≠ (TX1 b).2.1 := by decide +kernel
theorem tyX1_ok : ∀ k, k < 3 → parseFieldDescriptor (TX1 k).2.2.1 = some (tyX1 k) := by decide +kernel
abbrev cX1_init : ByteArray := prog_3_method_1_code
def yX1_init : MethodName := ⟨RX1, "<init>", "()V"⟩
abbrev cX1_size : ByteArray := prog_3_method_2_code
def yX1_size : MethodName := ⟨RX1, "size", "()I"⟩
abbrev cX1_add : ByteArray := prog_3_method_3_code
def yX1_add : MethodName := ⟨RX1, "add", "(II)V"⟩
abbrev cX1_remove : ByteArray := prog_3_method_4_code
def yX1_remove : MethodName := ⟨RX1, "remove", "(I)V"⟩
abbrev cX1_allow : ByteArray := prog_3_method_5_code
def yX1_allow : MethodName := ⟨RX1, "allow", "(II)Z"⟩
abbrev cX1_allowMove : ByteArray := prog_3_method_6_code
def yX1_allowMove : MethodName := ⟨RX1, "allowMove", "(II)Z"⟩
def RX2 : String := "AirSteps$Paces"
def TX2 : u_T := fun k => match k with
  | 0 => ("AirSteps$Paces", "least", "[I", true)
  | _ => ("AirSteps$Paces", "most", "[I", true)
def tyX2 : Nat → FieldType := fun k => match k with
  | 0 => .array .int
  | _ => .array .int
abbrev wsX20 : List Cond := u_ws RX2 TX2 2
theorem nmX2 : ∀ a, a < 2 → ∀ b, b < 2 → a ≠ b → (TX2 a).2.1 ≠ (TX2 b).2.1 := by decide +kernel
theorem tyX2_ok : ∀ k, k < 2 → parseFieldDescriptor (TX2 k).2.2.1 = some (tyX2 k) := by decide +kernel
abbrev cX2_init : ByteArray := prog_4_method_1_code
def yX2_init : MethodName := ⟨RX2, "<init>", "()V"⟩
abbrev cX2_put : ByteArray := prog_4_method_2_code
def yX2_put : MethodName := ⟨RX2, "put", "(III)V"⟩
abbrev cX2_leastOfLoop : ByteArray := prog_4_method_3_code
def yX2_leastOfLoop : MethodName := ⟨RX2, "leastOfLoop", "(LAirSteps$Text;)I"⟩
abbrev cX2_mostOfLoop : ByteArray := prog_4_method_4_code
def yX2_mostOfLoop : MethodName := ⟨RX2, "mostOfLoop", "(LAirSteps$Text;)I"⟩
abbrev cX2_sum : ByteArray := prog_4_method_5_code
def yX2_sum : MethodName := ⟨RX2, "sum", "([ILAirSteps$Text;)I"⟩
abbrev cX2_slowest : ByteArray := prog_4_method_6_code
def yX2_slowest : MethodName := ⟨RX2, "slowest", "(LAirSteps$Text;)I"⟩
abbrev cX2_longest : ByteArray := prog_4_method_7_code
def yX2_longest : MethodName := ⟨RX2, "longest", "([II)I"⟩
def RX3 : String := "AirSteps$Text"
def TX3 : u_T := fun k => match k with
  | 0 => ("AirSteps$Text", "ends", "[I", true)
  | 1 => ("AirSteps$Text", "states", "[I", true)
  | _ => ("AirSteps$Text", "size", "I", false)
def tyX3 : Nat → FieldType := fun k => match k with
  | 0 => .array .int
  | 1 => .array .int
  | _ => .int
abbrev wsX30 : List Cond := u_ws RX3 TX3 3
theorem nmX3 : ∀ a, a < 3 → ∀ b, b < 3 → a ≠ b → (TX3 a).2.1 ≠ (TX3 b).2.1 := by decide +kernel
theorem tyX3_ok : ∀ k, k < 3 → parseFieldDescriptor (TX3 k).2.2.1 = some (tyX3 k) := by decide +kernel
abbrev cX3_init : ByteArray := prog_5_method_1_code
def yX3_init : MethodName := ⟨RX3, "<init>", "()V"⟩
abbrev cX3_size : ByteArray := prog_5_method_2_code
def yX3_size : MethodName := ⟨RX3, "size", "()I"⟩
abbrev cX3_add : ByteArray := prog_5_method_3_code
def yX3_add : MethodName := ⟨RX3, "add", "(II)V"⟩
abbrev cX3_removeLast : ByteArray := prog_5_method_4_code
def yX3_removeLast : MethodName := ⟨RX3, "removeLast", "()V"⟩
abbrev cX3_endsOf : ByteArray := prog_5_method_5_code
def yX3_endsOf : MethodName := ⟨RX3, "endsOf", "(I)I"⟩
abbrev cX3_stateAt : ByteArray := prog_5_method_6_code
def yX3_stateAt : MethodName := ⟨RX3, "stateAt", "(I)I"⟩
abbrev cX3_trigger : ByteArray := prog_5_method_7_code
def yX3_trigger : MethodName := ⟨RX3, "trigger", "(I)I"⟩
abbrev cX3_isSound : ByteArray := prog_5_method_8_code
def yX3_isSound : MethodName := ⟨RX3, "isSound", "()Z"⟩
abbrev cX3_firstWrong : ByteArray := prog_5_method_9_code
def yX3_firstWrong : MethodName := ⟨RX3, "firstWrong", "()I"⟩
abbrev cX3_mostAlike : ByteArray := prog_5_method_10_code
def yX3_mostAlike : MethodName := ⟨RX3, "mostAlike", "()I"⟩
abbrev cX3_alike : ByteArray := prog_5_method_11_code
def yX3_alike : MethodName := ⟨RX3, "alike", "(I)I"⟩
abbrev cX3_moves : ByteArray := prog_5_method_12_code
def yX3_moves : MethodName := ⟨RX3, "moves", "()I"⟩
def RX4 : String := "AirSteps$Ways"
def TX4 : u_T := fun k => match k with
  | 0 => ("AirSteps$Ways", "lengths", "[I", true)
  | _ => ("AirSteps$Ways", "queue", "[I", true)
def tyX4 : Nat → FieldType := fun k => match k with
  | 0 => .array .int
  | _ => .array .int
abbrev wsX40 : List Cond := u_ws RX4 TX4 2
theorem nmX4 : ∀ a, a < 2 → ∀ b, b < 2 → a ≠ b → (TX4 a).2.1 ≠ (TX4 b).2.1 := by decide +kernel
theorem tyX4_ok : ∀ k, k < 2 → parseFieldDescriptor (TX4 k).2.2.1 = some (tyX4 k) := by decide +kernel
abbrev cX4_init : ByteArray := prog_6_method_1_code
def yX4_init : MethodName := ⟨RX4, "<init>", "()V"⟩
abbrev cX4_measure : ByteArray := prog_6_method_2_code
def yX4_measure : MethodName := ⟨RX4, "measure", "(LAirSteps$Laws;)V"⟩
abbrev cX4_reachBack : ByteArray := prog_6_method_3_code
def yX4_reachBack : MethodName := ⟨RX4, "reachBack", "(LAirSteps$Laws;II)I"⟩
abbrev cX4_length : ByteArray := prog_6_method_4_code
def yX4_length : MethodName := ⟨RX4, "length", "(I)I"⟩
abbrev cX4_move : ByteArray := prog_6_method_5_code
def yX4_move : MethodName := ⟨RX4, "move", "(LAirSteps$Laws;II)I"⟩
abbrev cX4_nextCylinder : ByteArray := prog_6_method_6_code
def yX4_nextCylinder : MethodName := ⟨RX4, "nextCylinder", "(LAirSteps$Laws;I)I"⟩
def RX5 : String := "AirSteps"
def TX5 : u_T := fun k => match k with
  | 0 => ("AirSteps", "text", "LAirSteps$Text;", true)
  | 1 => ("AirSteps", "rows", "LAirSteps$Groups;", true)
  | 2 => ("AirSteps", "laws", "LAirSteps$Laws;", true)
  | 3 => ("AirSteps", "ways", "LAirSteps$Ways;", true)
  | _ => ("AirSteps", "paces", "LAirSteps$Paces;", true)
def tyX5 : Nat → FieldType := fun k => match k with
  | 0 => .object "AirSteps$Text"
  | 1 => .object "AirSteps$Groups"
  | 2 => .object "AirSteps$Laws"
  | 3 => .object "AirSteps$Ways"
  | _ => .object "AirSteps$Paces"
abbrev wsX50 : List Cond := u_ws RX5 TX5 5
theorem nmX5 : ∀ a, a < 5 → ∀ b, b < 5 → a ≠ b → (TX5 a).2.1 ≠ (TX5 b).2.1 := by decide +kernel
theorem tyX5_ok : ∀ k, k < 5 → parseFieldDescriptor (TX5 k).2.2.1 = some (tyX5 k) := by decide +kernel
abbrev cX5_init : ByteArray := prog_1_method_1_code
def yX5_init : MethodName := ⟨RX5, "<init>", "()V"⟩
abbrev cX5_step : ByteArray := prog_1_method_2_code
def yX5_step : MethodName := ⟨RX5, "step", "(II)I"⟩
abbrev cX5_drop : ByteArray := prog_1_method_3_code
def yX5_drop : MethodName := ⟨RX5, "drop", "()I"⟩
abbrev cX5_sound : ByteArray := prog_1_method_4_code
def yX5_sound : MethodName := ⟨RX5, "sound", "()I"⟩
abbrev cX5_state : ByteArray := prog_1_method_5_code
def yX5_state : MethodName := ⟨RX5, "state", "(I)I"⟩
abbrev cX5_clash : ByteArray := prog_1_method_6_code
def yX5_clash : MethodName := ⟨RX5, "clash", "(I)I"⟩
abbrev cX5_clashOf : ByteArray := prog_1_method_7_code
def yX5_clashOf : MethodName := ⟨RX5, "clashOf", "(I)I"⟩
abbrev cX5_groups : ByteArray := prog_1_method_8_code
def yX5_groups : MethodName := ⟨RX5, "groups", "()I"⟩
abbrev cX5_cut : ByteArray := prog_1_method_9_code
def yX5_cut : MethodName := ⟨RX5, "cut", "(I)I"⟩
abbrev cX5_memories : ByteArray := prog_1_method_10_code
def yX5_memories : MethodName := ⟨RX5, "memories", "()I"⟩
abbrev cX5_pace : ByteArray := prog_1_method_11_code
def yX5_pace : MethodName := ⟨RX5, "pace", "(IZII)I"⟩
abbrev cX5_span : ByteArray := prog_1_method_12_code
def yX5_span : MethodName := ⟨RX5, "span", "(I)I"⟩
abbrev cX5_law : ByteArray := prog_1_method_13_code
def yX5_law : MethodName := ⟨RX5, "law", "(IZIZ)I"⟩
abbrev cX5_repeal : ByteArray := prog_1_method_14_code
def yX5_repeal : MethodName := ⟨RX5, "repeal", "(I)I"⟩
abbrev cX5_breach : ByteArray := prog_1_method_15_code
def yX5_breach : MethodName := ⟨RX5, "breach", "()I"⟩
abbrev cX5_home : ByteArray := prog_1_method_16_code
def yX5_home : MethodName := ⟨RX5, "home", "(I)I"⟩
abbrev cX5_way : ByteArray := prog_1_method_17_code
def yX5_way : MethodName := ⟨RX5, "way", "(II)I"⟩
abbrev cX5_stops : ByteArray := prog_1_method_18_code
def yX5_stops : MethodName := ⟨RX5, "stops", "(I)I"⟩
abbrev cX5_explains : ByteArray := prog_1_method_19_code
def yX5_explains : MethodName := ⟨RX5, "explains", "(I)I"⟩
abbrev cX5_count : ByteArray := prog_1_method_20_code
def yX5_count : MethodName := ⟨RX5, "count", "(I)I"⟩
abbrev cX5_firstClash : ByteArray := prog_1_method_21_code
def yX5_firstClash : MethodName := ⟨RX5, "firstClash", "(I)I"⟩
abbrev cX5_clashing : ByteArray := prog_1_method_22_code
def yX5_clashing : MethodName := ⟨RX5, "clashing", "(II)I"⟩
abbrev cX5_isPushed : ByteArray := prog_1_method_23_code
def yX5_isPushed : MethodName := ⟨RX5, "isPushed", "(III)Z"⟩
abbrev cX5_isBelow : ByteArray := prog_1_method_24_code
def yX5_isBelow : MethodName := ⟨RX5, "isBelow", "(II)Z"⟩
abbrev cX5_isState : ByteArray := prog_1_method_25_code
def yX5_isState : MethodName := ⟨RX5, "isState", "(I)Z"⟩
abbrev cX5_has : ByteArray := prog_1_method_26_code
def yX5_has : MethodName := ⟨RX5, "has", "(II)Z"⟩
abbrev cX5_leastOf : ByteArray := prog_1_method_27_code
def yX5_leastOf : MethodName := ⟨RX5, "leastOf", "(I)I"⟩
abbrev cX5_endOf : ByteArray := prog_1_method_28_code
def yX5_endOf : MethodName := ⟨RX5, "endOf", "(IZ)I"⟩
abbrev cX5_cylinderOf : ByteArray := prog_1_method_29_code
def yX5_cylinderOf : MethodName := ⟨RX5, "cylinderOf", "(I)I"⟩
abbrev cX5_endsTo : ByteArray := prog_1_method_30_code
def yX5_endsTo : MethodName := ⟨RX5, "endsTo", "(II)I"⟩
abbrev cX5_outsOf : ByteArray := prog_1_method_31_code
def yX5_outsOf : MethodName := ⟨RX5, "outsOf", "(I)I"⟩
abbrev cX5_insOf : ByteArray := prog_1_method_32_code
def yX5_insOf : MethodName := ⟨RX5, "insOf", "(I)I"⟩
abbrev cX5_cylindersOf : ByteArray := prog_1_method_33_code
def yX5_cylindersOf : MethodName := ⟨RX5, "cylindersOf", "(I)I"⟩
abbrev cX5_sensorsOn : ByteArray := prog_1_method_34_code
def yX5_sensorsOn : MethodName := ⟨RX5, "sensorsOn", "(I)I"⟩
def RX6 : String := "AirStepsModel"
def TX6 : u_T := fun k => match k with
  | 0 => ("AirStepsModel", "n", "I", false)
  | 1 => ("AirStepsModel", "outs", "[I", true)
  | 2 => ("AirStepsModel", "ins", "[I", true)
  | 3 => ("AirStepsModel", "least", "[I", true)
  | 4 => ("AirStepsModel", "most", "[I", true)
  | 5 => ("AirStepsModel", "laws", "I", false)
  | 6 => ("AirStepsModel", "lawA", "[I", true)
  | 7 => ("AirStepsModel", "lawOut", "[Z", true)
  | 8 => ("AirStepsModel", "lawB", "[I", true)
  | 9 => ("AirStepsModel", "lawIsOut", "[Z", true)
  | 10 => ("AirStepsModel", "states", "[I", true)
  | 11 => ("AirStepsModel", "cuts", "I", false)
  | _ => ("AirStepsModel", "ways", "[I", true)
def tyX6 : Nat → FieldType := fun k => match k with
  | 0 => .int
  | 1 => .array .int
  | 2 => .array .int
  | 3 => .array .int
  | 4 => .array .int
  | 5 => .int
  | 6 => .array .int
  | 7 => .array .boolean
  | 8 => .array .int
  | 9 => .array .boolean
  | 10 => .array .int
  | 11 => .int
  | _ => .array .int
abbrev wsX60 : List Cond := u_ws RX6 TX6 13
theorem nmX6 : ∀ a, a < 13 → ∀ b, b < 13 → a ≠ b → (TX6 a).2.1 ≠ (TX6 b).2.1 := by decide +kernel
theorem tyX6_ok : ∀ k, k < 13 → parseFieldDescriptor (TX6 k).2.2.1 = some (tyX6 k) := by decide +kernel
abbrev cX6_init : ByteArray := prog_8_method_1_code
def yX6_init : MethodName := ⟨RX6, "<init>", "()V"⟩
abbrev cX6_in : ByteArray := prog_8_method_2_code
def yX6_in : MethodName := ⟨RX6, "in", "(III)Z"⟩
abbrev cX6_ones : ByteArray := prog_8_method_3_code
def yX6_ones : MethodName := ⟨RX6, "ones", "(I)I"⟩
abbrev cX6_step : ByteArray := prog_8_method_4_code
def yX6_step : MethodName := ⟨RX6, "step", "(II)I"⟩
abbrev cX6_drop : ByteArray := prog_8_method_5_code
def yX6_drop : MethodName := ⟨RX6, "drop", "()I"⟩
abbrev cX6_sound : ByteArray := prog_8_method_6_code
def yX6_sound : MethodName := ⟨RX6, "sound", "()I"⟩
abbrev cX6_isSound : ByteArray := prog_8_method_7_code
def yX6_isSound : MethodName := ⟨RX6, "isSound", "()Z"⟩
abbrev cX6_isStep : ByteArray := prog_8_method_8_code
def yX6_isStep : MethodName := ⟨RX6, "isStep", "(I)Z"⟩
abbrev cX6_state : ByteArray := prog_8_method_9_code
def yX6_state : MethodName := ⟨RX6, "state", "(I)I"⟩
abbrev cX6_ahead : ByteArray := prog_8_method_10_code
def yX6_ahead : MethodName := ⟨RX6, "ahead", "(I)I"⟩
abbrev cX6_isOn : ByteArray := prog_8_method_11_code
def yX6_isOn : MethodName := ⟨RX6, "isOn", "(II)Z"⟩
abbrev cX6_mayCut : ByteArray := prog_8_method_12_code
def yX6_mayCut : MethodName := ⟨RX6, "mayCut", "(I)Z"⟩
abbrev cX6_comesFirst : ByteArray := prog_8_method_13_code
def yX6_comesFirst : MethodName := ⟨RX6, "comesFirst", "(II)Z"⟩
abbrev cX6_findCuts : ByteArray := prog_8_method_14_code
def yX6_findCuts : MethodName := ⟨RX6, "findCuts", "()V"⟩
abbrev cX6_beginOf : ByteArray := prog_8_method_15_code
def yX6_beginOf : MethodName := ⟨RX6, "beginOf", "(I)I"⟩
abbrev cX6_isPushed : ByteArray := prog_8_method_16_code
def yX6_isPushed : MethodName := ⟨RX6, "isPushed", "(III)Z"⟩
abbrev cX6_clashAt : ByteArray := prog_8_method_17_code
def yX6_clashAt : MethodName := ⟨RX6, "clashAt", "(II)I"⟩
abbrev cX6_firstClash : ByteArray := prog_8_method_18_code
def yX6_firstClash : MethodName := ⟨RX6, "firstClash", "(I)I"⟩
abbrev cX6_clash : ByteArray := prog_8_method_19_code
def yX6_clash : MethodName := ⟨RX6, "clash", "(I)I"⟩
abbrev cX6_clashOf : ByteArray := prog_8_method_20_code
def yX6_clashOf : MethodName := ⟨RX6, "clashOf", "(I)I"⟩
abbrev cX6_groups : ByteArray := prog_8_method_21_code
def yX6_groups : MethodName := ⟨RX6, "groups", "()I"⟩
abbrev cX6_cut : ByteArray := prog_8_method_22_code
def yX6_cut : MethodName := ⟨RX6, "cut", "(I)I"⟩
abbrev cX6_memories : ByteArray := prog_8_method_23_code
def yX6_memories : MethodName := ⟨RX6, "memories", "()I"⟩
abbrev cX6_isCylinder : ByteArray := prog_8_method_24_code
def yX6_isCylinder : MethodName := ⟨RX6, "isCylinder", "(I)Z"⟩
abbrev cX6_pace : ByteArray := prog_8_method_25_code
def yX6_pace : MethodName := ⟨RX6, "pace", "(IZII)I"⟩
abbrev cX6_greatestOf : ByteArray := prog_8_method_26_code
def yX6_greatestOf : MethodName := ⟨RX6, "greatestOf", "(I[I)I"⟩
abbrev cX6_span : ByteArray := prog_8_method_27_code
def yX6_span : MethodName := ⟨RX6, "span", "(I)I"⟩
abbrev cX6_law : ByteArray := prog_8_method_28_code
def yX6_law : MethodName := ⟨RX6, "law", "(IZIZ)I"⟩
abbrev cX6_repeal : ByteArray := prog_8_method_29_code
def yX6_repeal : MethodName := ⟨RX6, "repeal", "(I)I"⟩
abbrev cX6_breaks : ByteArray := prog_8_method_30_code
def yX6_breaks : MethodName := ⟨RX6, "breaks", "(III)Z"⟩
abbrev cX6_breach : ByteArray := prog_8_method_31_code
def yX6_breach : MethodName := ⟨RX6, "breach", "()I"⟩
abbrev cX6_mayMove : ByteArray := prog_8_method_32_code
def yX6_mayMove : MethodName := ⟨RX6, "mayMove", "(II)Z"⟩
abbrev cX6_layWays : ByteArray := prog_8_method_33_code
def yX6_layWays : MethodName := ⟨RX6, "layWays", "()V"⟩
abbrev cX6_home : ByteArray := prog_8_method_34_code
def yX6_home : MethodName := ⟨RX6, "home", "(I)I"⟩
abbrev cX6_way : ByteArray := prog_8_method_35_code
def yX6_way : MethodName := ⟨RX6, "way", "(II)I"⟩
abbrev cX6_has : ByteArray := prog_8_method_36_code
def yX6_has : MethodName := ⟨RX6, "has", "(II)Z"⟩
abbrev cX6_stopOf : ByteArray := prog_8_method_37_code
def yX6_stopOf : MethodName := ⟨RX6, "stopOf", "(I)I"⟩
abbrev cX6_stops : ByteArray := prog_8_method_38_code
def yX6_stops : MethodName := ⟨RX6, "stops", "(I)I"⟩
abbrev cX6_explains : ByteArray := prog_8_method_39_code
def yX6_explains : MethodName := ⟨RX6, "explains", "(I)I"⟩
abbrev cX6_count : ByteArray := prog_8_method_40_code
def yX6_count : MethodName := ⟨RX6, "count", "(I)I"⟩
def RJ6 : String := "java/lang/Integer"
def TJ6 : u_T := fun k => match k with
  | _ => ("", "", "", false)
def tyJ6 : Nat → FieldType := fun k => match k with
  | _ => .int
abbrev wsJ60 : List Cond := u_ws RJ6 TJ6 0
theorem nmJ6 : ∀ a, a < 0 → ∀ b, b < 0 → a ≠ b → (TJ6 a).2.1 ≠ (TJ6 b).2.1 := by decide +kernel
theorem tyJ6_ok : ∀ k, k < 0 → parseFieldDescriptor (TJ6 k).2.2.1 = some (tyJ6 k) := by decide +kernel
abbrev cJ6_bitCount_0f7a4 : ByteArray := prog_9_method_49_code
def yJ6_bitCount_0f7a4 : MethodName := ⟨RJ6, "bitCount", "(I)I"⟩
def RJ9 : String := "java/lang/Math"
def TJ9 : u_T := fun k => match k with
  | _ => ("", "", "", false)
def tyJ9 : Nat → FieldType := fun k => match k with
  | _ => .int
abbrev wsJ90 : List Cond := u_ws RJ9 TJ9 0
theorem nmJ9 : ∀ a, a < 0 → ∀ b, b < 0 → a ≠ b → (TJ9 a).2.1 ≠ (TJ9 b).2.1 := by decide +kernel
theorem tyJ9_ok : ∀ k, k < 0 → parseFieldDescriptor (TJ9 k).2.2.1 = some (tyJ9 k) := by decide +kernel
abbrev cJ9_max_7cf53 : ByteArray := prog_10_method_65_code
def yJ9_max_7cf53 : MethodName := ⟨RJ9, "max", "(II)I"⟩
abbrev cJ9_min_7cf53 : ByteArray := prog_10_method_69_code
def yJ9_min_7cf53 : MethodName := ⟨RJ9, "min", "(II)I"⟩
def RL : String := "AirStepsLaw"
abbrev cL_law : ByteArray := code
def yL_law : MethodName := ⟨RL, "law", "([I)Z"⟩
def wsX0_init : List Cond := .code yX0_init cX0_init 1 none :: ([.methodLink RX0 3 objectInit, .instanceMethod objectInit, .code objectInit ⟨#[0xb1]⟩ 1 none, .arrayClass .int, .fieldLink RX0 9 "AirSteps$Groups" "cuts" "[I", .fieldLink RX0 15 "AirSteps$Groups" "needs" "[I", .fieldLink RX0 18 "AirSteps$Groups" "size" "I"] ++ wsX00)
def wsX0_size : List Cond := .code yX0_size cX0_size 1 (some .int) :: ([.fieldLink RX0 18 "AirSteps$Groups" "size" "I"] ++ wsX00)
def wsX5_isBelow : List Cond := .code yX5_isBelow cX5_isBelow 2 (some .boolean) :: ([])
def wsX0_cutAt : List Cond := .code yX0_cutAt cX0_cutAt 2 (some .int) :: ([.fieldLink RX0 18 "AirSteps$Groups" "size" "I", .fieldLink RX0 9 "AirSteps$Groups" "cuts" "[I", .static yX5_isBelow, .initialized RX5, .code yX5_isBelow cX5_isBelow 2 (some .boolean)] ++ wsX00)
def wsX3_size : List Cond := .code yX3_size cX3_size 1 (some .int) :: ([.fieldLink RX3 18 "AirSteps$Text" "size" "I"] ++ wsX30)
def wsX3_endsOf : List Cond := .code yX3_endsOf cX3_endsOf 2 (some .int) :: ([.fieldLink RX3 18 "AirSteps$Text" "size" "I", .fieldLink RX3 9 "AirSteps$Text" "ends" "[I", .static yX5_isBelow, .initialized RX5, .code yX5_isBelow cX5_isBelow 2 (some .boolean)] ++ wsX30)
def wsX5_outsOf : List Cond := .code yX5_outsOf cX5_outsOf 1 (some .int) :: ([])
def wsX5_insOf : List Cond := .code yX5_insOf cX5_insOf 1 (some .int) :: ([])
def wsX5_cylindersOf : List Cond := .code yX5_cylindersOf cX5_cylindersOf 1 (some .int) :: ([.methodLink RX5 149 yX5_outsOf, .static yX5_outsOf, .initialized RX5, .code yX5_outsOf cX5_outsOf 1 (some .int), .methodLink RX5 152 yX5_insOf, .static yX5_insOf, .code yX5_insOf cX5_insOf 1 (some .int)])
def wsX0_need_r1 : List Cond := [Cond.fieldLink RX0 15 "AirSteps$Groups" "needs" "[I", Cond.methodLink RX0 50 Lib.Math.min.name, Cond.static Lib.Math.min.name, Cond.initialized "java/lang/Math", Cond.code Lib.Math.min.name Lib.Math.min.code 2 (some .int), Cond.methodLink RX0 26 yX3_size, Cond.instanceMethod yX3_size, Cond.selects RX3 yX3_size yX3_size, Cond.initialized RX3, Cond.code yX3_size cX3_size 1 (some .int), Cond.fieldLink RX3 18 "AirSteps$Text" "size" "I", Cond.methodLink RX0 43 yX3_endsOf, Cond.instanceMethod yX3_endsOf, Cond.selects RX3 yX3_endsOf yX3_endsOf, Cond.code yX3_endsOf cX3_endsOf 2 (some .int), Cond.fieldLink RX3 9 "AirSteps$Text" "ends" "[I", Cond.static yX5_isBelow, Cond.initialized RX5, Cond.code yX5_isBelow cX5_isBelow 2 (some .boolean), Cond.static yX5_cylindersOf, Cond.code yX5_cylindersOf cX5_cylindersOf 1 (some .int), Cond.methodLink RX5 149 yX5_outsOf, Cond.static yX5_outsOf, Cond.code yX5_outsOf cX5_outsOf 1 (some .int)]
def wsX0_need_r2 : List Cond := [Cond.methodLink RX5 152 yX5_insOf, Cond.static yX5_insOf, Cond.code yX5_insOf cX5_insOf 1 (some .int)]
def wsX0_need : List Cond := .code yX0_need cX0_need 9 (some .int) :: ((wsX0_need_r1 ++ wsX0_need_r2) ++ wsX00 ++ wsX30)
def wsX0_needsFrom_r1 : List Cond := [Cond.fieldLink RX0 15 "AirSteps$Groups" "needs" "[I", Cond.methodLink RX0 26 yX3_size, Cond.instanceMethod yX3_size, Cond.selects RX3 yX3_size yX3_size, Cond.initialized RX3, Cond.code yX3_size cX3_size 1 (some .int), Cond.fieldLink RX3 18 "AirSteps$Text" "size" "I", Cond.methodLink RX0 39 yX0_need, Cond.instanceMethod yX0_need, Cond.selects RX0 yX0_need yX0_need, Cond.initialized RX0, Cond.code yX0_need cX0_need 9 (some .int), Cond.methodLink RX0 50 Lib.Math.min.name, Cond.static Lib.Math.min.name, Cond.initialized "java/lang/Math", Cond.code Lib.Math.min.name Lib.Math.min.code 2 (some .int), Cond.methodLink RX0 43 yX3_endsOf, Cond.instanceMethod yX3_endsOf, Cond.selects RX3 yX3_endsOf yX3_endsOf, Cond.code yX3_endsOf cX3_endsOf 2 (some .int), Cond.fieldLink RX3 9 "AirSteps$Text" "ends" "[I", Cond.static yX5_isBelow, Cond.initialized RX5, Cond.code yX5_isBelow cX5_isBelow 2 (some .boolean)]
def wsX0_needsFrom_r2 : List Cond := [Cond.static yX5_cylindersOf, Cond.code yX5_cylindersOf cX5_cylindersOf 1 (some .int), Cond.methodLink RX5 149 yX5_outsOf, Cond.static yX5_outsOf, Cond.code yX5_outsOf cX5_outsOf 1 (some .int), Cond.methodLink RX5 152 yX5_insOf, Cond.static yX5_insOf, Cond.code yX5_insOf cX5_insOf 1 (some .int)]
def wsX0_needsFrom : List Cond := .code yX0_needsFrom cX0_needsFrom 4 (some .int) :: ((wsX0_needsFrom_r1 ++ wsX0_needsFrom_r2) ++ wsX00 ++ wsX30)
def wsX0_collect : List Cond := .code yX0_collect cX0_collect 5 none :: ([.fieldLink RX0 18 "AirSteps$Groups" "size" "I", .fieldLink RX0 15 "AirSteps$Groups" "needs" "[I", .fieldLink RX0 9 "AirSteps$Groups" "cuts" "[I"] ++ wsX00)
def wsX0_find_r1 : List Cond := [Cond.methodLink RX0 26 yX3_size, Cond.instanceMethod yX3_size, Cond.selects RX3 yX3_size yX3_size, Cond.initialized RX3, Cond.code yX3_size cX3_size 1 (some .int), Cond.fieldLink RX3 18 "AirSteps$Text" "size" "I", Cond.methodLink RX0 31 yX0_needsFrom, Cond.instanceMethod yX0_needsFrom, Cond.selects RX0 yX0_needsFrom yX0_needsFrom, Cond.initialized RX0, Cond.code yX0_needsFrom cX0_needsFrom 4 (some .int), Cond.fieldLink RX0 15 "AirSteps$Groups" "needs" "[I", Cond.methodLink RX0 39 yX0_need, Cond.instanceMethod yX0_need, Cond.selects RX0 yX0_need yX0_need, Cond.code yX0_need cX0_need 9 (some .int), Cond.methodLink RX0 50 Lib.Math.min.name, Cond.static Lib.Math.min.name, Cond.initialized "java/lang/Math", Cond.code Lib.Math.min.name Lib.Math.min.code 2 (some .int), Cond.methodLink RX0 43 yX3_endsOf, Cond.instanceMethod yX3_endsOf, Cond.selects RX3 yX3_endsOf yX3_endsOf, Cond.code yX3_endsOf cX3_endsOf 2 (some .int)]
def wsX0_find_r2 : List Cond := [Cond.fieldLink RX3 9 "AirSteps$Text" "ends" "[I", Cond.static yX5_isBelow, Cond.initialized RX5, Cond.code yX5_isBelow cX5_isBelow 2 (some .boolean), Cond.static yX5_cylindersOf, Cond.code yX5_cylindersOf cX5_cylindersOf 1 (some .int), Cond.methodLink RX5 149 yX5_outsOf, Cond.static yX5_outsOf, Cond.code yX5_outsOf cX5_outsOf 1 (some .int), Cond.methodLink RX5 152 yX5_insOf, Cond.static yX5_insOf, Cond.code yX5_insOf cX5_insOf 1 (some .int), Cond.methodLink RX0 35 yX0_collect, Cond.instanceMethod yX0_collect, Cond.selects RX0 yX0_collect yX0_collect, Cond.code yX0_collect cX0_collect 5 none, Cond.fieldLink RX0 18 "AirSteps$Groups" "size" "I", Cond.fieldLink RX0 9 "AirSteps$Groups" "cuts" "[I"]
def wsX0_find : List Cond := .code yX0_find cX0_find 6 none :: ((wsX0_find_r1 ++ wsX0_find_r2) ++ wsX30 ++ wsX00)
def wsX0_groupOf : List Cond := .code yX0_groupOf cX0_groupOf 4 (some .int) :: ([.fieldLink RX0 18 "AirSteps$Groups" "size" "I", .fieldLink RX0 9 "AirSteps$Groups" "cuts" "[I"] ++ wsX00)
def wsX0_isFirst : List Cond := .code yX0_isFirst cX0_isFirst 3 (some .boolean) :: ([.fieldLink RX0 18 "AirSteps$Groups" "size" "I", .fieldLink RX0 9 "AirSteps$Groups" "cuts" "[I"] ++ wsX00)
def wsX1_init : List Cond := .code yX1_init cX1_init 1 none :: ([.methodLink RX1 3 objectInit, .instanceMethod objectInit, .code objectInit ⟨#[0xb1]⟩ 1 none, .arrayClass .int, .fieldLink RX1 9 "AirSteps$Laws" "barred" "[I", .fieldLink RX1 15 "AirSteps$Laws" "whileAt" "[I", .fieldLink RX1 18 "AirSteps$Laws" "size" "I"] ++ wsX10)
def wsX1_size : List Cond := .code yX1_size cX1_size 1 (some .int) :: ([.fieldLink RX1 18 "AirSteps$Laws" "size" "I"] ++ wsX10)
def wsX1_add : List Cond := .code yX1_add cX1_add 3 none :: ([.fieldLink RX1 18 "AirSteps$Laws" "size" "I", .fieldLink RX1 9 "AirSteps$Laws" "barred" "[I", .fieldLink RX1 15 "AirSteps$Laws" "whileAt" "[I"] ++ wsX10)
def wsX1_remove : List Cond := .code yX1_remove cX1_remove 3 none :: ([.fieldLink RX1 18 "AirSteps$Laws" "size" "I", .fieldLink RX1 9 "AirSteps$Laws" "barred" "[I", .fieldLink RX1 15 "AirSteps$Laws" "whileAt" "[I", .static yX5_isBelow, .initialized RX5, .code yX5_isBelow cX5_isBelow 2 (some .boolean)] ++ wsX10)
def wsX5_endsTo : List Cond := .code yX5_endsTo cX5_endsTo 2 (some .int) :: ([])
def wsX5_sensorsOn : List Cond := .code yX5_sensorsOn cX5_sensorsOn 1 (some .int) :: ([.methodLink RX5 164 yX5_endsTo, .static yX5_endsTo, .initialized RX5, .code yX5_endsTo cX5_endsTo 2 (some .int)])
def wsX5_has : List Cond := .code yX5_has cX5_has 2 (some .boolean) :: ([])
def wsX5_cylinderOf : List Cond := .code yX5_cylinderOf cX5_cylinderOf 1 (some .int) :: ([])
def wsX1_allow : List Cond := .code yX1_allow cX1_allow 7 (some .boolean) :: ([.fieldLink RX1 18 "AirSteps$Laws" "size" "I", .fieldLink RX1 15 "AirSteps$Laws" "whileAt" "[I", .fieldLink RX1 9 "AirSteps$Laws" "barred" "[I", .static yX5_sensorsOn, .initialized RX5, .code yX5_sensorsOn cX5_sensorsOn 1 (some .int), .methodLink RX5 164 yX5_endsTo, .static yX5_endsTo, .code yX5_endsTo cX5_endsTo 2 (some .int), .static yX5_cylindersOf, .code yX5_cylindersOf cX5_cylindersOf 1 (some .int), .methodLink RX5 149 yX5_outsOf, .static yX5_outsOf, .code yX5_outsOf cX5_outsOf 1 (some .int), .methodLink RX5 152 yX5_insOf, .static yX5_insOf, .code yX5_insOf cX5_insOf 1 (some .int), .static yX5_has, .code yX5_has cX5_has 2 (some .boolean), .static yX5_cylinderOf, .code yX5_cylinderOf cX5_cylinderOf 1 (some .int)] ++ wsX10)
def wsX1_allowMove_r1 : List Cond := [Cond.static yX5_endsTo, Cond.initialized RX5, Cond.code yX5_endsTo cX5_endsTo 2 (some .int), Cond.methodLink RX1 43 yX1_allow, Cond.instanceMethod yX1_allow, Cond.selects RX1 yX1_allow yX1_allow, Cond.initialized RX1, Cond.code yX1_allow cX1_allow 7 (some .boolean), Cond.fieldLink RX1 18 "AirSteps$Laws" "size" "I", Cond.fieldLink RX1 15 "AirSteps$Laws" "whileAt" "[I", Cond.fieldLink RX1 9 "AirSteps$Laws" "barred" "[I", Cond.static yX5_sensorsOn, Cond.code yX5_sensorsOn cX5_sensorsOn 1 (some .int), Cond.methodLink RX5 164 yX5_endsTo, Cond.static yX5_cylindersOf, Cond.code yX5_cylindersOf cX5_cylindersOf 1 (some .int), Cond.methodLink RX5 149 yX5_outsOf, Cond.static yX5_outsOf, Cond.code yX5_outsOf cX5_outsOf 1 (some .int), Cond.methodLink RX5 152 yX5_insOf, Cond.static yX5_insOf, Cond.code yX5_insOf cX5_insOf 1 (some .int), Cond.static yX5_has, Cond.code yX5_has cX5_has 2 (some .boolean)]
def wsX1_allowMove_r2 : List Cond := [Cond.static yX5_cylinderOf, Cond.code yX5_cylinderOf cX5_cylinderOf 1 (some .int)]
def wsX1_allowMove : List Cond := .code yX1_allowMove cX1_allowMove 4 (some .boolean) :: ((wsX1_allowMove_r1 ++ wsX1_allowMove_r2) ++ wsX10)
def wsX2_init : List Cond := .code yX2_init cX2_init 2 none :: ([.methodLink RX2 3 objectInit, .instanceMethod objectInit, .code objectInit ⟨#[0xb1]⟩ 1 none, .arrayClass .int, .fieldLink RX2 9 "AirSteps$Paces" "least" "[I", .fieldLink RX2 15 "AirSteps$Paces" "most" "[I"] ++ wsX20)
def wsX2_put : List Cond := .code yX2_put cX2_put 4 none :: ([.fieldLink RX2 9 "AirSteps$Paces" "least" "[I", .fieldLink RX2 15 "AirSteps$Paces" "most" "[I", .static yX5_isBelow, .initialized RX5, .code yX5_isBelow cX5_isBelow 2 (some .boolean)] ++ wsX20)
def wsX2_longest : List Cond := .code yX2_longest cX2_longest 4 (some .int) :: ([.methodLink RX2 43 Lib.Math.max.name, .static Lib.Math.max.name, .initialized "java/lang/Math", .code Lib.Math.max.name Lib.Math.max.code 2 (some .int), .static yX5_has, .initialized RX5, .code yX5_has cX5_has 2 (some .boolean)])
def wsX2_sum : List Cond := .code yX2_sum cX2_sum 4 (some .int) :: ([.methodLink RX2 26 yX3_size, .instanceMethod yX3_size, .selects RX3 yX3_size yX3_size, .initialized RX3, .code yX3_size cX3_size 1 (some .int), .fieldLink RX3 18 "AirSteps$Text" "size" "I", .methodLink RX2 32 yX3_endsOf, .instanceMethod yX3_endsOf, .selects RX3 yX3_endsOf yX3_endsOf, .code yX3_endsOf cX3_endsOf 2 (some .int), .fieldLink RX3 9 "AirSteps$Text" "ends" "[I", .static yX5_isBelow, .initialized RX5, .code yX5_isBelow cX5_isBelow 2 (some .boolean), .methodLink RX2 36 yX2_longest, .static yX2_longest, .initialized RX2, .code yX2_longest cX2_longest 4 (some .int), .methodLink RX2 43 Lib.Math.max.name, .static Lib.Math.max.name, .initialized "java/lang/Math", .code Lib.Math.max.name Lib.Math.max.code 2 (some .int), .static yX5_has, .code yX5_has cX5_has 2 (some .boolean)] ++ wsX30)
def wsX2_leastOfLoop_r1 : List Cond := [Cond.fieldLink RX2 9 "AirSteps$Paces" "least" "[I", Cond.methodLink RX2 22 yX2_sum, Cond.static yX2_sum, Cond.initialized RX2, Cond.code yX2_sum cX2_sum 4 (some .int), Cond.methodLink RX2 26 yX3_size, Cond.instanceMethod yX3_size, Cond.selects RX3 yX3_size yX3_size, Cond.initialized RX3, Cond.code yX3_size cX3_size 1 (some .int), Cond.fieldLink RX3 18 "AirSteps$Text" "size" "I", Cond.methodLink RX2 32 yX3_endsOf, Cond.instanceMethod yX3_endsOf, Cond.selects RX3 yX3_endsOf yX3_endsOf, Cond.code yX3_endsOf cX3_endsOf 2 (some .int), Cond.fieldLink RX3 9 "AirSteps$Text" "ends" "[I", Cond.static yX5_isBelow, Cond.initialized RX5, Cond.code yX5_isBelow cX5_isBelow 2 (some .boolean), Cond.methodLink RX2 36 yX2_longest, Cond.static yX2_longest, Cond.code yX2_longest cX2_longest 4 (some .int), Cond.methodLink RX2 43 Lib.Math.max.name, Cond.static Lib.Math.max.name]
def wsX2_leastOfLoop_r2 : List Cond := [Cond.initialized "java/lang/Math", Cond.code Lib.Math.max.name Lib.Math.max.code 2 (some .int), Cond.static yX5_has, Cond.code yX5_has cX5_has 2 (some .boolean)]
def wsX2_leastOfLoop : List Cond := .code yX2_leastOfLoop cX2_leastOfLoop 2 (some .int) :: ((wsX2_leastOfLoop_r1 ++ wsX2_leastOfLoop_r2) ++ wsX20 ++ wsX30)
def wsX2_mostOfLoop_r1 : List Cond := [Cond.fieldLink RX2 15 "AirSteps$Paces" "most" "[I", Cond.methodLink RX2 22 yX2_sum, Cond.static yX2_sum, Cond.initialized RX2, Cond.code yX2_sum cX2_sum 4 (some .int), Cond.methodLink RX2 26 yX3_size, Cond.instanceMethod yX3_size, Cond.selects RX3 yX3_size yX3_size, Cond.initialized RX3, Cond.code yX3_size cX3_size 1 (some .int), Cond.fieldLink RX3 18 "AirSteps$Text" "size" "I", Cond.methodLink RX2 32 yX3_endsOf, Cond.instanceMethod yX3_endsOf, Cond.selects RX3 yX3_endsOf yX3_endsOf, Cond.code yX3_endsOf cX3_endsOf 2 (some .int), Cond.fieldLink RX3 9 "AirSteps$Text" "ends" "[I", Cond.static yX5_isBelow, Cond.initialized RX5, Cond.code yX5_isBelow cX5_isBelow 2 (some .boolean), Cond.methodLink RX2 36 yX2_longest, Cond.static yX2_longest, Cond.code yX2_longest cX2_longest 4 (some .int), Cond.methodLink RX2 43 Lib.Math.max.name, Cond.static Lib.Math.max.name]
def wsX2_mostOfLoop_r2 : List Cond := [Cond.initialized "java/lang/Math", Cond.code Lib.Math.max.name Lib.Math.max.code 2 (some .int), Cond.static yX5_has, Cond.code yX5_has cX5_has 2 (some .boolean)]
def wsX2_mostOfLoop : List Cond := .code yX2_mostOfLoop cX2_mostOfLoop 2 (some .int) :: ((wsX2_mostOfLoop_r1 ++ wsX2_mostOfLoop_r2) ++ wsX20 ++ wsX30)
def wsX2_slowest_r1 : List Cond := [Cond.fieldLink RX2 15 "AirSteps$Paces" "most" "[I", Cond.methodLink RX2 26 yX3_size, Cond.instanceMethod yX3_size, Cond.selects RX3 yX3_size yX3_size, Cond.initialized RX3, Cond.code yX3_size cX3_size 1 (some .int), Cond.fieldLink RX3 18 "AirSteps$Text" "size" "I", Cond.methodLink RX2 32 yX3_endsOf, Cond.instanceMethod yX3_endsOf, Cond.selects RX3 yX3_endsOf yX3_endsOf, Cond.code yX3_endsOf cX3_endsOf 2 (some .int), Cond.fieldLink RX3 9 "AirSteps$Text" "ends" "[I", Cond.static yX5_isBelow, Cond.initialized RX5, Cond.code yX5_isBelow cX5_isBelow 2 (some .boolean), Cond.methodLink RX2 36 yX2_longest, Cond.static yX2_longest, Cond.initialized RX2, Cond.code yX2_longest cX2_longest 4 (some .int), Cond.methodLink RX2 43 Lib.Math.max.name, Cond.static Lib.Math.max.name, Cond.initialized "java/lang/Math", Cond.code Lib.Math.max.name Lib.Math.max.code 2 (some .int), Cond.static yX5_has]
def wsX2_slowest_r2 : List Cond := [Cond.code yX5_has cX5_has 2 (some .boolean)]
def wsX2_slowest : List Cond := .code yX2_slowest cX2_slowest 6 (some .int) :: ((wsX2_slowest_r1 ++ wsX2_slowest_r2) ++ wsX20 ++ wsX30)
def wsX3_init : List Cond := .code yX3_init cX3_init 1 none :: ([.methodLink RX3 3 objectInit, .instanceMethod objectInit, .code objectInit ⟨#[0xb1]⟩ 1 none, .arrayClass .int, .fieldLink RX3 9 "AirSteps$Text" "ends" "[I", .fieldLink RX3 15 "AirSteps$Text" "states" "[I", .fieldLink RX3 18 "AirSteps$Text" "size" "I"] ++ wsX30)
def wsX3_add : List Cond := .code yX3_add cX3_add 3 none :: ([.fieldLink RX3 18 "AirSteps$Text" "size" "I", .fieldLink RX3 9 "AirSteps$Text" "ends" "[I", .fieldLink RX3 15 "AirSteps$Text" "states" "[I", .static yX5_endsTo, .initialized RX5, .code yX5_endsTo cX5_endsTo 2 (some .int)] ++ wsX30)
def wsX3_removeLast : List Cond := .code yX3_removeLast cX3_removeLast 1 none :: ([.fieldLink RX3 18 "AirSteps$Text" "size" "I"] ++ wsX30)
def wsX3_stateAt : List Cond := .code yX3_stateAt cX3_stateAt 2 (some .int) :: ([.fieldLink RX3 18 "AirSteps$Text" "size" "I", .fieldLink RX3 15 "AirSteps$Text" "states" "[I", .static yX5_isBelow, .initialized RX5, .code yX5_isBelow cX5_isBelow 2 (some .boolean)] ++ wsX30)
def wsX3_trigger : List Cond := .code yX3_trigger cX3_trigger 2 (some .int) :: ([.fieldLink RX3 18 "AirSteps$Text" "size" "I", .methodLink RX3 30 yX3_endsOf, .instanceMethod yX3_endsOf, .selects RX3 yX3_endsOf yX3_endsOf, .initialized RX3, .code yX3_endsOf cX3_endsOf 2 (some .int), .fieldLink RX3 9 "AirSteps$Text" "ends" "[I", .static yX5_isBelow, .initialized RX5, .code yX5_isBelow cX5_isBelow 2 (some .boolean)] ++ wsX30)
def wsX3_firstWrong : List Cond := .code yX3_firstWrong cX3_firstWrong 2 (some .int) :: ([.fieldLink RX3 18 "AirSteps$Text" "size" "I", .fieldLink RX3 9 "AirSteps$Text" "ends" "[I", .fieldLink RX3 15 "AirSteps$Text" "states" "[I", .static yX5_sensorsOn, .initialized RX5, .code yX5_sensorsOn cX5_sensorsOn 1 (some .int), .methodLink RX5 164 yX5_endsTo, .static yX5_endsTo, .code yX5_endsTo cX5_endsTo 2 (some .int)] ++ wsX30)
def wsX3_isSound : List Cond := .code yX3_isSound cX3_isSound 1 (some .boolean) :: ([.methodLink RX3 34 yX3_firstWrong, .instanceMethod yX3_firstWrong, .selects RX3 yX3_firstWrong yX3_firstWrong, .initialized RX3, .code yX3_firstWrong cX3_firstWrong 2 (some .int), .fieldLink RX3 18 "AirSteps$Text" "size" "I", .fieldLink RX3 9 "AirSteps$Text" "ends" "[I", .fieldLink RX3 15 "AirSteps$Text" "states" "[I", .static yX5_sensorsOn, .initialized RX5, .code yX5_sensorsOn cX5_sensorsOn 1 (some .int), .methodLink RX5 164 yX5_endsTo, .static yX5_endsTo, .code yX5_endsTo cX5_endsTo 2 (some .int)] ++ wsX30)
def wsX3_alike : List Cond := .code yX3_alike cX3_alike 4 (some .int) :: ([.fieldLink RX3 18 "AirSteps$Text" "size" "I", .fieldLink RX3 15 "AirSteps$Text" "states" "[I"] ++ wsX30)
def wsX3_mostAlike : List Cond := .code yX3_mostAlike cX3_mostAlike 3 (some .int) :: ([.fieldLink RX3 18 "AirSteps$Text" "size" "I", .fieldLink RX3 15 "AirSteps$Text" "states" "[I", .methodLink RX3 44 Lib.Math.max.name, .static Lib.Math.max.name, .initialized "java/lang/Math", .code Lib.Math.max.name Lib.Math.max.code 2 (some .int), .methodLink RX3 41 yX3_alike, .instanceMethod yX3_alike, .selects RX3 yX3_alike yX3_alike, .initialized RX3, .code yX3_alike cX3_alike 4 (some .int)] ++ wsX30)
def wsJ6_bitCount_0f7a4 : List Cond := .code yJ6_bitCount_0f7a4 cJ6_bitCount_0f7a4 1 (some .int) :: ([.constant RJ6 265 (1431655765), .constant RJ6 266 (858993459), .constant RJ6 267 (252645135)])
def wsX3_moves : List Cond := .code yX3_moves cX3_moves 3 (some .int) :: ([.fieldLink RX3 18 "AirSteps$Text" "size" "I", .fieldLink RX3 9 "AirSteps$Text" "ends" "[I", .methodLink RX3 49 yJ6_bitCount_0f7a4, .static yJ6_bitCount_0f7a4, .initialized RJ6, .code yJ6_bitCount_0f7a4 cJ6_bitCount_0f7a4 1 (some .int), .constant RJ6 265 (1431655765), .constant RJ6 266 (858993459), .constant RJ6 267 (252645135)] ++ wsX30)
def wsX4_init : List Cond := .code yX4_init cX4_init 2 none :: ([.methodLink RX4 3 objectInit, .instanceMethod objectInit, .code objectInit ⟨#[0xb1]⟩ 1 none, .arrayClass .int, .fieldLink RX4 9 "AirSteps$Ways" "lengths" "[I", .fieldLink RX4 15 "AirSteps$Ways" "queue" "[I", .methodLink RX4 18 yJ6_bitCount_0f7a4, .static yJ6_bitCount_0f7a4, .initialized RJ6, .code yJ6_bitCount_0f7a4 cJ6_bitCount_0f7a4 1 (some .int), .constant RJ6 265 (1431655765), .constant RJ6 266 (858993459), .constant RJ6 267 (252645135)] ++ wsX40)
def wsX4_reachBack_r1 : List Cond := [Cond.fieldLink RX4 9 "AirSteps$Ways" "lengths" "[I", Cond.fieldLink RX4 15 "AirSteps$Ways" "queue" "[I", Cond.methodLink RX4 28 yX1_allowMove, Cond.instanceMethod yX1_allowMove, Cond.selects RX1 yX1_allowMove yX1_allowMove, Cond.initialized RX1, Cond.code yX1_allowMove cX1_allowMove 4 (some .boolean), Cond.static yX5_endsTo, Cond.initialized RX5, Cond.code yX5_endsTo cX5_endsTo 2 (some .int), Cond.methodLink RX1 43 yX1_allow, Cond.instanceMethod yX1_allow, Cond.selects RX1 yX1_allow yX1_allow, Cond.code yX1_allow cX1_allow 7 (some .boolean), Cond.fieldLink RX1 18 "AirSteps$Laws" "size" "I", Cond.fieldLink RX1 15 "AirSteps$Laws" "whileAt" "[I", Cond.fieldLink RX1 9 "AirSteps$Laws" "barred" "[I", Cond.static yX5_sensorsOn, Cond.code yX5_sensorsOn cX5_sensorsOn 1 (some .int), Cond.methodLink RX5 164 yX5_endsTo, Cond.static yX5_cylindersOf, Cond.code yX5_cylindersOf cX5_cylindersOf 1 (some .int), Cond.methodLink RX5 149 yX5_outsOf, Cond.static yX5_outsOf]
def wsX4_reachBack_r2 : List Cond := [Cond.code yX5_outsOf cX5_outsOf 1 (some .int), Cond.methodLink RX5 152 yX5_insOf, Cond.static yX5_insOf, Cond.code yX5_insOf cX5_insOf 1 (some .int), Cond.static yX5_has, Cond.code yX5_has cX5_has 2 (some .boolean), Cond.static yX5_cylinderOf, Cond.code yX5_cylinderOf cX5_cylinderOf 1 (some .int)]
def wsX4_reachBack : List Cond := .code yX4_reachBack cX4_reachBack 7 (some .int) :: ((wsX4_reachBack_r1 ++ wsX4_reachBack_r2) ++ wsX40 ++ wsX10)
def wsX4_measure_r1 : List Cond := [Cond.fieldLink RX4 9 "AirSteps$Ways" "lengths" "[I", Cond.fieldLink RX4 15 "AirSteps$Ways" "queue" "[I", Cond.methodLink RX4 24 yX4_reachBack, Cond.instanceMethod yX4_reachBack, Cond.selects RX4 yX4_reachBack yX4_reachBack, Cond.initialized RX4, Cond.code yX4_reachBack cX4_reachBack 7 (some .int), Cond.methodLink RX4 28 yX1_allowMove, Cond.instanceMethod yX1_allowMove, Cond.selects RX1 yX1_allowMove yX1_allowMove, Cond.initialized RX1, Cond.code yX1_allowMove cX1_allowMove 4 (some .boolean), Cond.static yX5_endsTo, Cond.initialized RX5, Cond.code yX5_endsTo cX5_endsTo 2 (some .int), Cond.methodLink RX1 43 yX1_allow, Cond.instanceMethod yX1_allow, Cond.selects RX1 yX1_allow yX1_allow, Cond.code yX1_allow cX1_allow 7 (some .boolean), Cond.fieldLink RX1 18 "AirSteps$Laws" "size" "I", Cond.fieldLink RX1 15 "AirSteps$Laws" "whileAt" "[I", Cond.fieldLink RX1 9 "AirSteps$Laws" "barred" "[I", Cond.static yX5_sensorsOn, Cond.code yX5_sensorsOn cX5_sensorsOn 1 (some .int)]
def wsX4_measure_r2 : List Cond := [Cond.methodLink RX5 164 yX5_endsTo, Cond.static yX5_cylindersOf, Cond.code yX5_cylindersOf cX5_cylindersOf 1 (some .int), Cond.methodLink RX5 149 yX5_outsOf, Cond.static yX5_outsOf, Cond.code yX5_outsOf cX5_outsOf 1 (some .int), Cond.methodLink RX5 152 yX5_insOf, Cond.static yX5_insOf, Cond.code yX5_insOf cX5_insOf 1 (some .int), Cond.static yX5_has, Cond.code yX5_has cX5_has 2 (some .boolean), Cond.static yX5_cylinderOf, Cond.code yX5_cylinderOf cX5_cylinderOf 1 (some .int)]
def wsX4_measure : List Cond := .code yX4_measure cX4_measure 4 none :: ((wsX4_measure_r1 ++ wsX4_measure_r2) ++ wsX40 ++ wsX10)
def wsX5_isState : List Cond := .code yX5_isState cX5_isState 1 (some .boolean) :: ([.methodLink RX5 62 yX5_isBelow, .static yX5_isBelow, .initialized RX5, .code yX5_isBelow cX5_isBelow 2 (some .boolean)])
def wsX4_length : List Cond := .code yX4_length cX4_length 2 (some .int) :: ([.fieldLink RX4 9 "AirSteps$Ways" "lengths" "[I", .static yX5_isState, .initialized RX5, .code yX5_isState cX5_isState 1 (some .boolean), .methodLink RX5 62 yX5_isBelow, .static yX5_isBelow, .code yX5_isBelow cX5_isBelow 2 (some .boolean)] ++ wsX40)
def wsX4_nextCylinder_r1 : List Cond := [Cond.methodLink RX4 38 yX4_length, Cond.instanceMethod yX4_length, Cond.selects RX4 yX4_length yX4_length, Cond.initialized RX4, Cond.code yX4_length cX4_length 2 (some .int), Cond.fieldLink RX4 9 "AirSteps$Ways" "lengths" "[I", Cond.static yX5_isState, Cond.initialized RX5, Cond.code yX5_isState cX5_isState 1 (some .boolean), Cond.methodLink RX5 62 yX5_isBelow, Cond.static yX5_isBelow, Cond.code yX5_isBelow cX5_isBelow 2 (some .boolean), Cond.methodLink RX4 28 yX1_allowMove, Cond.instanceMethod yX1_allowMove, Cond.selects RX1 yX1_allowMove yX1_allowMove, Cond.initialized RX1, Cond.code yX1_allowMove cX1_allowMove 4 (some .boolean), Cond.static yX5_endsTo, Cond.code yX5_endsTo cX5_endsTo 2 (some .int), Cond.methodLink RX1 43 yX1_allow, Cond.instanceMethod yX1_allow, Cond.selects RX1 yX1_allow yX1_allow, Cond.code yX1_allow cX1_allow 7 (some .boolean), Cond.fieldLink RX1 18 "AirSteps$Laws" "size" "I"]
def wsX4_nextCylinder_r2 : List Cond := [Cond.fieldLink RX1 15 "AirSteps$Laws" "whileAt" "[I", Cond.fieldLink RX1 9 "AirSteps$Laws" "barred" "[I", Cond.static yX5_sensorsOn, Cond.code yX5_sensorsOn cX5_sensorsOn 1 (some .int), Cond.methodLink RX5 164 yX5_endsTo, Cond.static yX5_cylindersOf, Cond.code yX5_cylindersOf cX5_cylindersOf 1 (some .int), Cond.methodLink RX5 149 yX5_outsOf, Cond.static yX5_outsOf, Cond.code yX5_outsOf cX5_outsOf 1 (some .int), Cond.methodLink RX5 152 yX5_insOf, Cond.static yX5_insOf, Cond.code yX5_insOf cX5_insOf 1 (some .int), Cond.static yX5_has, Cond.code yX5_has cX5_has 2 (some .boolean), Cond.static yX5_cylinderOf, Cond.code yX5_cylinderOf cX5_cylinderOf 1 (some .int)]
def wsX4_nextCylinder : List Cond := .code yX4_nextCylinder cX4_nextCylinder 5 (some .int) :: ((wsX4_nextCylinder_r1 ++ wsX4_nextCylinder_r2) ++ wsX40 ++ wsX10)
def wsX4_move_r1 : List Cond := [Cond.methodLink RX4 38 yX4_length, Cond.instanceMethod yX4_length, Cond.selects RX4 yX4_length yX4_length, Cond.initialized RX4, Cond.code yX4_length cX4_length 2 (some .int), Cond.fieldLink RX4 9 "AirSteps$Ways" "lengths" "[I", Cond.static yX5_isState, Cond.initialized RX5, Cond.code yX5_isState cX5_isState 1 (some .boolean), Cond.methodLink RX5 62 yX5_isBelow, Cond.static yX5_isBelow, Cond.code yX5_isBelow cX5_isBelow 2 (some .boolean), Cond.methodLink RX4 41 yX4_nextCylinder, Cond.instanceMethod yX4_nextCylinder, Cond.selects RX4 yX4_nextCylinder yX4_nextCylinder, Cond.code yX4_nextCylinder cX4_nextCylinder 5 (some .int), Cond.methodLink RX4 28 yX1_allowMove, Cond.instanceMethod yX1_allowMove, Cond.selects RX1 yX1_allowMove yX1_allowMove, Cond.initialized RX1, Cond.code yX1_allowMove cX1_allowMove 4 (some .boolean), Cond.static yX5_endsTo, Cond.code yX5_endsTo cX5_endsTo 2 (some .int), Cond.methodLink RX1 43 yX1_allow]
def wsX4_move_r2 : List Cond := [Cond.instanceMethod yX1_allow, Cond.selects RX1 yX1_allow yX1_allow, Cond.code yX1_allow cX1_allow 7 (some .boolean), Cond.fieldLink RX1 18 "AirSteps$Laws" "size" "I", Cond.fieldLink RX1 15 "AirSteps$Laws" "whileAt" "[I", Cond.fieldLink RX1 9 "AirSteps$Laws" "barred" "[I", Cond.static yX5_sensorsOn, Cond.code yX5_sensorsOn cX5_sensorsOn 1 (some .int), Cond.methodLink RX5 164 yX5_endsTo, Cond.static yX5_cylindersOf, Cond.code yX5_cylindersOf cX5_cylindersOf 1 (some .int), Cond.methodLink RX5 149 yX5_outsOf, Cond.static yX5_outsOf, Cond.code yX5_outsOf cX5_outsOf 1 (some .int), Cond.methodLink RX5 152 yX5_insOf, Cond.static yX5_insOf, Cond.code yX5_insOf cX5_insOf 1 (some .int), Cond.static yX5_has, Cond.code yX5_has cX5_has 2 (some .boolean), Cond.static yX5_cylinderOf, Cond.code yX5_cylinderOf cX5_cylinderOf 1 (some .int)]
def wsX4_move : List Cond := .code yX4_move cX4_move 6 (some .int) :: ((wsX4_move_r1 ++ wsX4_move_r2) ++ wsX40 ++ wsX10)
def wsX5_init_r1 : List Cond := [Cond.methodLink RX5 1 objectInit, Cond.instanceMethod objectInit, Cond.code objectInit ⟨#[0xb1]⟩ 1 none, Cond.classLink RX5 7 RX3, Cond.instantiable RX3 3, Cond.initialized RX3, Cond.fieldLink RX5 10 "AirSteps" "text" "LAirSteps$Text;", Cond.classLink RX5 16 RX0, Cond.instantiable RX0 3, Cond.initialized RX0, Cond.fieldLink RX5 19 "AirSteps" "rows" "LAirSteps$Groups;", Cond.classLink RX5 23 RX1, Cond.instantiable RX1 3, Cond.initialized RX1, Cond.fieldLink RX5 26 "AirSteps" "laws" "LAirSteps$Laws;", Cond.classLink RX5 30 RX4, Cond.instantiable RX4 2, Cond.initialized RX4, Cond.fieldLink RX5 33 "AirSteps" "ways" "LAirSteps$Ways;", Cond.classLink RX5 37 RX2, Cond.instantiable RX2 2, Cond.initialized RX2, Cond.fieldLink RX5 40 "AirSteps" "paces" "LAirSteps$Paces;", Cond.instanceMethod yX3_init]
def wsX5_init_r2 : List Cond := [Cond.code yX3_init cX3_init 1 none, Cond.methodLink RX3 3 objectInit, Cond.arrayClass .int, Cond.fieldLink RX3 9 "AirSteps$Text" "ends" "[I", Cond.fieldLink RX3 15 "AirSteps$Text" "states" "[I", Cond.fieldLink RX3 18 "AirSteps$Text" "size" "I", Cond.instanceMethod yX0_init, Cond.code yX0_init cX0_init 1 none, Cond.methodLink RX0 3 objectInit, Cond.fieldLink RX0 9 "AirSteps$Groups" "cuts" "[I", Cond.fieldLink RX0 15 "AirSteps$Groups" "needs" "[I", Cond.fieldLink RX0 18 "AirSteps$Groups" "size" "I", Cond.instanceMethod yX1_init, Cond.code yX1_init cX1_init 1 none, Cond.methodLink RX1 3 objectInit, Cond.fieldLink RX1 9 "AirSteps$Laws" "barred" "[I", Cond.fieldLink RX1 15 "AirSteps$Laws" "whileAt" "[I", Cond.fieldLink RX1 18 "AirSteps$Laws" "size" "I", Cond.methodLink RX5 32 yX4_init, Cond.instanceMethod yX4_init, Cond.code yX4_init cX4_init 2 none, Cond.methodLink RX4 3 objectInit, Cond.fieldLink RX4 9 "AirSteps$Ways" "lengths" "[I", Cond.fieldLink RX4 15 "AirSteps$Ways" "queue" "[I"]
def wsX5_init_r3 : List Cond := [Cond.methodLink RX4 18 yJ6_bitCount_0f7a4, Cond.static yJ6_bitCount_0f7a4, Cond.initialized RJ6, Cond.code yJ6_bitCount_0f7a4 cJ6_bitCount_0f7a4 1 (some .int), Cond.constant RJ6 265 (1431655765), Cond.constant RJ6 266 (858993459), Cond.constant RJ6 267 (252645135), Cond.methodLink RX5 39 yX2_init, Cond.instanceMethod yX2_init, Cond.code yX2_init cX2_init 2 none, Cond.methodLink RX2 3 objectInit, Cond.fieldLink RX2 9 "AirSteps$Paces" "least" "[I", Cond.fieldLink RX2 15 "AirSteps$Paces" "most" "[I"]
def wsX5_init : List Cond := .code yX5_init cX5_init 1 none :: ((wsX5_init_r1 ++ (wsX5_init_r2 ++ wsX5_init_r3)) ++ wsX30 ++ wsX50 ++ wsX00 ++ wsX10 ++ wsX40 ++ wsX20)
def wsX5_step : List Cond := .code yX5_step cX5_step 3 (some .int) :: ([.fieldLink RX5 10 "AirSteps" "text" "LAirSteps$Text;", .methodLink RX5 44 yX5_isState, .static yX5_isState, .initialized RX5, .code yX5_isState cX5_isState 1 (some .boolean), .methodLink RX5 62 yX5_isBelow, .static yX5_isBelow, .code yX5_isBelow cX5_isBelow 2 (some .boolean), .methodLink RX5 48 yX3_size, .instanceMethod yX3_size, .selects RX3 yX3_size yX3_size, .initialized RX3, .code yX3_size cX3_size 1 (some .int), .fieldLink RX3 18 "AirSteps$Text" "size" "I", .methodLink RX5 52 yX3_add, .instanceMethod yX3_add, .selects RX3 yX3_add yX3_add, .code yX3_add cX3_add 3 none, .fieldLink RX3 9 "AirSteps$Text" "ends" "[I", .fieldLink RX3 15 "AirSteps$Text" "states" "[I", .static yX5_endsTo, .code yX5_endsTo cX5_endsTo 2 (some .int)] ++ wsX50 ++ wsX30)
def wsX5_drop : List Cond := .code yX5_drop cX5_drop 1 (some .int) :: ([.fieldLink RX5 10 "AirSteps" "text" "LAirSteps$Text;", .methodLink RX5 48 yX3_size, .instanceMethod yX3_size, .selects RX3 yX3_size yX3_size, .initialized RX3, .code yX3_size cX3_size 1 (some .int), .fieldLink RX3 18 "AirSteps$Text" "size" "I", .methodLink RX5 56 yX3_removeLast, .instanceMethod yX3_removeLast, .selects RX3 yX3_removeLast yX3_removeLast, .code yX3_removeLast cX3_removeLast 1 none] ++ wsX50 ++ wsX30)
def wsX5_sound : List Cond := .code yX5_sound cX5_sound 1 (some .int) :: ([.fieldLink RX5 10 "AirSteps" "text" "LAirSteps$Text;", .methodLink RX5 59 yX3_firstWrong, .instanceMethod yX3_firstWrong, .selects RX3 yX3_firstWrong yX3_firstWrong, .initialized RX3, .code yX3_firstWrong cX3_firstWrong 2 (some .int), .fieldLink RX3 18 "AirSteps$Text" "size" "I", .fieldLink RX3 9 "AirSteps$Text" "ends" "[I", .fieldLink RX3 15 "AirSteps$Text" "states" "[I", .static yX5_sensorsOn, .initialized RX5, .code yX5_sensorsOn cX5_sensorsOn 1 (some .int), .methodLink RX5 164 yX5_endsTo, .static yX5_endsTo, .code yX5_endsTo cX5_endsTo 2 (some .int)] ++ wsX50 ++ wsX30)
def wsX5_state_r1 : List Cond := [Cond.fieldLink RX5 10 "AirSteps" "text" "LAirSteps$Text;", Cond.methodLink RX5 48 yX3_size, Cond.instanceMethod yX3_size, Cond.selects RX3 yX3_size yX3_size, Cond.initialized RX3, Cond.code yX3_size cX3_size 1 (some .int), Cond.fieldLink RX3 18 "AirSteps$Text" "size" "I", Cond.methodLink RX5 62 yX5_isBelow, Cond.static yX5_isBelow, Cond.initialized RX5, Cond.code yX5_isBelow cX5_isBelow 2 (some .boolean), Cond.methodLink RX5 66 yX3_isSound, Cond.instanceMethod yX3_isSound, Cond.selects RX3 yX3_isSound yX3_isSound, Cond.code yX3_isSound cX3_isSound 1 (some .boolean), Cond.methodLink RX3 34 yX3_firstWrong, Cond.instanceMethod yX3_firstWrong, Cond.selects RX3 yX3_firstWrong yX3_firstWrong, Cond.code yX3_firstWrong cX3_firstWrong 2 (some .int), Cond.fieldLink RX3 9 "AirSteps$Text" "ends" "[I", Cond.fieldLink RX3 15 "AirSteps$Text" "states" "[I", Cond.static yX5_sensorsOn, Cond.code yX5_sensorsOn cX5_sensorsOn 1 (some .int), Cond.methodLink RX5 164 yX5_endsTo]
def wsX5_state_r2 : List Cond := [Cond.static yX5_endsTo, Cond.code yX5_endsTo cX5_endsTo 2 (some .int), Cond.methodLink RX5 70 yX3_stateAt, Cond.instanceMethod yX3_stateAt, Cond.selects RX3 yX3_stateAt yX3_stateAt, Cond.code yX3_stateAt cX3_stateAt 2 (some .int)]
def wsX5_state : List Cond := .code yX5_state cX5_state 2 (some .int) :: ((wsX5_state_r1 ++ wsX5_state_r2) ++ wsX50 ++ wsX30)
def wsX5_isPushed_r1 : List Cond := [Cond.fieldLink RX5 10 "AirSteps" "text" "LAirSteps$Text;", Cond.fieldLink RX5 19 "AirSteps" "rows" "LAirSteps$Groups;", Cond.methodLink RX5 136 yX3_trigger, Cond.instanceMethod yX3_trigger, Cond.selects RX3 yX3_trigger yX3_trigger, Cond.initialized RX3, Cond.code yX3_trigger cX3_trigger 2 (some .int), Cond.fieldLink RX3 18 "AirSteps$Text" "size" "I", Cond.methodLink RX3 30 yX3_endsOf, Cond.instanceMethod yX3_endsOf, Cond.selects RX3 yX3_endsOf yX3_endsOf, Cond.code yX3_endsOf cX3_endsOf 2 (some .int), Cond.fieldLink RX3 9 "AirSteps$Text" "ends" "[I", Cond.static yX5_isBelow, Cond.initialized RX5, Cond.code yX5_isBelow cX5_isBelow 2 (some .boolean), Cond.methodLink RX5 70 yX3_stateAt, Cond.instanceMethod yX3_stateAt, Cond.selects RX3 yX3_stateAt yX3_stateAt, Cond.code yX3_stateAt cX3_stateAt 2 (some .int), Cond.fieldLink RX3 15 "AirSteps$Text" "states" "[I", Cond.methodLink RX5 155 yX5_sensorsOn, Cond.static yX5_sensorsOn, Cond.code yX5_sensorsOn cX5_sensorsOn 1 (some .int)]
def wsX5_isPushed_r2 : List Cond := [Cond.methodLink RX5 164 yX5_endsTo, Cond.static yX5_endsTo, Cond.code yX5_endsTo cX5_endsTo 2 (some .int), Cond.methodLink RX5 158 yX0_groupOf, Cond.instanceMethod yX0_groupOf, Cond.selects RX0 yX0_groupOf yX0_groupOf, Cond.initialized RX0, Cond.code yX0_groupOf cX0_groupOf 4 (some .int), Cond.fieldLink RX0 18 "AirSteps$Groups" "size" "I", Cond.fieldLink RX0 9 "AirSteps$Groups" "cuts" "[I", Cond.methodLink RX5 161 yX0_isFirst, Cond.instanceMethod yX0_isFirst, Cond.selects RX0 yX0_isFirst yX0_isFirst, Cond.code yX0_isFirst cX0_isFirst 3 (some .boolean)]
def wsX5_isPushed : List Cond := .code yX5_isPushed cX5_isPushed 5 (some .boolean) :: ((wsX5_isPushed_r1 ++ wsX5_isPushed_r2) ++ wsX50 ++ wsX30 ++ wsX00)
def wsX5_clashing_r1 : List Cond := [Cond.fieldLink RX5 10 "AirSteps" "text" "LAirSteps$Text;", Cond.methodLink RX5 48 yX3_size, Cond.instanceMethod yX3_size, Cond.selects RX3 yX3_size yX3_size, Cond.initialized RX3, Cond.code yX3_size cX3_size 1 (some .int), Cond.fieldLink RX3 18 "AirSteps$Text" "size" "I", Cond.methodLink RX5 145 yX5_isPushed, Cond.instanceMethod yX5_isPushed, Cond.selects RX5 yX5_isPushed yX5_isPushed, Cond.initialized RX5, Cond.code yX5_isPushed cX5_isPushed 5 (some .boolean), Cond.fieldLink RX5 19 "AirSteps" "rows" "LAirSteps$Groups;", Cond.methodLink RX5 136 yX3_trigger, Cond.instanceMethod yX3_trigger, Cond.selects RX3 yX3_trigger yX3_trigger, Cond.code yX3_trigger cX3_trigger 2 (some .int), Cond.methodLink RX3 30 yX3_endsOf, Cond.instanceMethod yX3_endsOf, Cond.selects RX3 yX3_endsOf yX3_endsOf, Cond.code yX3_endsOf cX3_endsOf 2 (some .int), Cond.fieldLink RX3 9 "AirSteps$Text" "ends" "[I", Cond.static yX5_isBelow, Cond.code yX5_isBelow cX5_isBelow 2 (some .boolean)]
def wsX5_clashing_r2 : List Cond := [Cond.methodLink RX5 70 yX3_stateAt, Cond.instanceMethod yX3_stateAt, Cond.selects RX3 yX3_stateAt yX3_stateAt, Cond.code yX3_stateAt cX3_stateAt 2 (some .int), Cond.fieldLink RX3 15 "AirSteps$Text" "states" "[I", Cond.methodLink RX5 155 yX5_sensorsOn, Cond.static yX5_sensorsOn, Cond.code yX5_sensorsOn cX5_sensorsOn 1 (some .int), Cond.methodLink RX5 164 yX5_endsTo, Cond.static yX5_endsTo, Cond.code yX5_endsTo cX5_endsTo 2 (some .int), Cond.methodLink RX5 158 yX0_groupOf, Cond.instanceMethod yX0_groupOf, Cond.selects RX0 yX0_groupOf yX0_groupOf, Cond.initialized RX0, Cond.code yX0_groupOf cX0_groupOf 4 (some .int), Cond.fieldLink RX0 18 "AirSteps$Groups" "size" "I", Cond.fieldLink RX0 9 "AirSteps$Groups" "cuts" "[I", Cond.methodLink RX5 161 yX0_isFirst, Cond.instanceMethod yX0_isFirst, Cond.selects RX0 yX0_isFirst yX0_isFirst, Cond.code yX0_isFirst cX0_isFirst 3 (some .boolean), Cond.methodLink RX5 123 yX3_endsOf, Cond.methodLink RX5 149 yX5_outsOf]
def wsX5_clashing_r3 : List Cond := [Cond.static yX5_outsOf, Cond.code yX5_outsOf cX5_outsOf 1 (some .int), Cond.methodLink RX5 152 yX5_insOf, Cond.static yX5_insOf, Cond.code yX5_insOf cX5_insOf 1 (some .int)]
def wsX5_clashing : List Cond := .code yX5_clashing cX5_clashing 5 (some .int) :: ((wsX5_clashing_r1 ++ (wsX5_clashing_r2 ++ wsX5_clashing_r3)) ++ wsX50 ++ wsX30 ++ wsX00)
def wsX5_firstClash_r1 : List Cond := [Cond.fieldLink RX5 19 "AirSteps" "rows" "LAirSteps$Groups;", Cond.fieldLink RX5 10 "AirSteps" "text" "LAirSteps$Text;", Cond.methodLink RX5 84 yX0_find, Cond.instanceMethod yX0_find, Cond.selects RX0 yX0_find yX0_find, Cond.initialized RX0, Cond.code yX0_find cX0_find 6 none, Cond.methodLink RX0 26 yX3_size, Cond.instanceMethod yX3_size, Cond.selects RX3 yX3_size yX3_size, Cond.initialized RX3, Cond.code yX3_size cX3_size 1 (some .int), Cond.fieldLink RX3 18 "AirSteps$Text" "size" "I", Cond.methodLink RX0 31 yX0_needsFrom, Cond.instanceMethod yX0_needsFrom, Cond.selects RX0 yX0_needsFrom yX0_needsFrom, Cond.code yX0_needsFrom cX0_needsFrom 4 (some .int), Cond.fieldLink RX0 15 "AirSteps$Groups" "needs" "[I", Cond.methodLink RX0 39 yX0_need, Cond.instanceMethod yX0_need, Cond.selects RX0 yX0_need yX0_need, Cond.code yX0_need cX0_need 9 (some .int), Cond.methodLink RX0 50 Lib.Math.min.name, Cond.static Lib.Math.min.name]
def wsX5_firstClash_r2 : List Cond := [Cond.initialized "java/lang/Math", Cond.code Lib.Math.min.name Lib.Math.min.code 2 (some .int), Cond.methodLink RX0 43 yX3_endsOf, Cond.instanceMethod yX3_endsOf, Cond.selects RX3 yX3_endsOf yX3_endsOf, Cond.code yX3_endsOf cX3_endsOf 2 (some .int), Cond.fieldLink RX3 9 "AirSteps$Text" "ends" "[I", Cond.static yX5_isBelow, Cond.initialized RX5, Cond.code yX5_isBelow cX5_isBelow 2 (some .boolean), Cond.static yX5_cylindersOf, Cond.code yX5_cylindersOf cX5_cylindersOf 1 (some .int), Cond.methodLink RX5 149 yX5_outsOf, Cond.static yX5_outsOf, Cond.code yX5_outsOf cX5_outsOf 1 (some .int), Cond.methodLink RX5 152 yX5_insOf, Cond.static yX5_insOf, Cond.code yX5_insOf cX5_insOf 1 (some .int), Cond.methodLink RX0 35 yX0_collect, Cond.instanceMethod yX0_collect, Cond.selects RX0 yX0_collect yX0_collect, Cond.code yX0_collect cX0_collect 5 none, Cond.fieldLink RX0 18 "AirSteps$Groups" "size" "I", Cond.fieldLink RX0 9 "AirSteps$Groups" "cuts" "[I"]
def wsX5_firstClash_r3 : List Cond := [Cond.methodLink RX5 48 yX3_size, Cond.methodLink RX5 77 yX5_clashing, Cond.instanceMethod yX5_clashing, Cond.selects RX5 yX5_clashing yX5_clashing, Cond.code yX5_clashing cX5_clashing 5 (some .int), Cond.methodLink RX5 145 yX5_isPushed, Cond.instanceMethod yX5_isPushed, Cond.selects RX5 yX5_isPushed yX5_isPushed, Cond.code yX5_isPushed cX5_isPushed 5 (some .boolean), Cond.methodLink RX5 136 yX3_trigger, Cond.instanceMethod yX3_trigger, Cond.selects RX3 yX3_trigger yX3_trigger, Cond.code yX3_trigger cX3_trigger 2 (some .int), Cond.methodLink RX3 30 yX3_endsOf, Cond.methodLink RX5 70 yX3_stateAt, Cond.instanceMethod yX3_stateAt, Cond.selects RX3 yX3_stateAt yX3_stateAt, Cond.code yX3_stateAt cX3_stateAt 2 (some .int), Cond.fieldLink RX3 15 "AirSteps$Text" "states" "[I", Cond.methodLink RX5 155 yX5_sensorsOn, Cond.static yX5_sensorsOn, Cond.code yX5_sensorsOn cX5_sensorsOn 1 (some .int), Cond.methodLink RX5 164 yX5_endsTo, Cond.static yX5_endsTo]
def wsX5_firstClash_r4 : List Cond := [Cond.code yX5_endsTo cX5_endsTo 2 (some .int), Cond.methodLink RX5 158 yX0_groupOf, Cond.instanceMethod yX0_groupOf, Cond.selects RX0 yX0_groupOf yX0_groupOf, Cond.code yX0_groupOf cX0_groupOf 4 (some .int), Cond.methodLink RX5 161 yX0_isFirst, Cond.instanceMethod yX0_isFirst, Cond.selects RX0 yX0_isFirst yX0_isFirst, Cond.code yX0_isFirst cX0_isFirst 3 (some .boolean), Cond.methodLink RX5 123 yX3_endsOf]
def wsX5_firstClash : List Cond := .code yX5_firstClash cX5_firstClash 3 (some .int) :: ((wsX5_firstClash_r1 ++ (wsX5_firstClash_r2 ++ (wsX5_firstClash_r3 ++ wsX5_firstClash_r4))) ++ wsX50 ++ wsX30 ++ wsX00)
def wsX5_clash_r1 : List Cond := [Cond.fieldLink RX5 10 "AirSteps" "text" "LAirSteps$Text;", Cond.methodLink RX5 62 yX5_isBelow, Cond.static yX5_isBelow, Cond.initialized RX5, Cond.code yX5_isBelow cX5_isBelow 2 (some .boolean), Cond.methodLink RX5 66 yX3_isSound, Cond.instanceMethod yX3_isSound, Cond.selects RX3 yX3_isSound yX3_isSound, Cond.initialized RX3, Cond.code yX3_isSound cX3_isSound 1 (some .boolean), Cond.methodLink RX3 34 yX3_firstWrong, Cond.instanceMethod yX3_firstWrong, Cond.selects RX3 yX3_firstWrong yX3_firstWrong, Cond.code yX3_firstWrong cX3_firstWrong 2 (some .int), Cond.fieldLink RX3 18 "AirSteps$Text" "size" "I", Cond.fieldLink RX3 9 "AirSteps$Text" "ends" "[I", Cond.fieldLink RX3 15 "AirSteps$Text" "states" "[I", Cond.static yX5_sensorsOn, Cond.code yX5_sensorsOn cX5_sensorsOn 1 (some .int), Cond.methodLink RX5 164 yX5_endsTo, Cond.static yX5_endsTo, Cond.code yX5_endsTo cX5_endsTo 2 (some .int), Cond.methodLink RX5 74 yX5_firstClash, Cond.instanceMethod yX5_firstClash]
def wsX5_clash_r2 : List Cond := [Cond.selects RX5 yX5_firstClash yX5_firstClash, Cond.code yX5_firstClash cX5_firstClash 3 (some .int), Cond.fieldLink RX5 19 "AirSteps" "rows" "LAirSteps$Groups;", Cond.methodLink RX5 84 yX0_find, Cond.instanceMethod yX0_find, Cond.selects RX0 yX0_find yX0_find, Cond.initialized RX0, Cond.code yX0_find cX0_find 6 none, Cond.methodLink RX0 26 yX3_size, Cond.instanceMethod yX3_size, Cond.selects RX3 yX3_size yX3_size, Cond.code yX3_size cX3_size 1 (some .int), Cond.methodLink RX0 31 yX0_needsFrom, Cond.instanceMethod yX0_needsFrom, Cond.selects RX0 yX0_needsFrom yX0_needsFrom, Cond.code yX0_needsFrom cX0_needsFrom 4 (some .int), Cond.fieldLink RX0 15 "AirSteps$Groups" "needs" "[I", Cond.methodLink RX0 39 yX0_need, Cond.instanceMethod yX0_need, Cond.selects RX0 yX0_need yX0_need, Cond.code yX0_need cX0_need 9 (some .int), Cond.methodLink RX0 50 Lib.Math.min.name, Cond.static Lib.Math.min.name, Cond.initialized "java/lang/Math"]
def wsX5_clash_r3 : List Cond := [Cond.code Lib.Math.min.name Lib.Math.min.code 2 (some .int), Cond.methodLink RX0 43 yX3_endsOf, Cond.instanceMethod yX3_endsOf, Cond.selects RX3 yX3_endsOf yX3_endsOf, Cond.code yX3_endsOf cX3_endsOf 2 (some .int), Cond.static yX5_cylindersOf, Cond.code yX5_cylindersOf cX5_cylindersOf 1 (some .int), Cond.methodLink RX5 149 yX5_outsOf, Cond.static yX5_outsOf, Cond.code yX5_outsOf cX5_outsOf 1 (some .int), Cond.methodLink RX5 152 yX5_insOf, Cond.static yX5_insOf, Cond.code yX5_insOf cX5_insOf 1 (some .int), Cond.methodLink RX0 35 yX0_collect, Cond.instanceMethod yX0_collect, Cond.selects RX0 yX0_collect yX0_collect, Cond.code yX0_collect cX0_collect 5 none, Cond.fieldLink RX0 18 "AirSteps$Groups" "size" "I", Cond.fieldLink RX0 9 "AirSteps$Groups" "cuts" "[I", Cond.methodLink RX5 48 yX3_size, Cond.methodLink RX5 77 yX5_clashing, Cond.instanceMethod yX5_clashing, Cond.selects RX5 yX5_clashing yX5_clashing, Cond.code yX5_clashing cX5_clashing 5 (some .int)]
def wsX5_clash_r4 : List Cond := [Cond.methodLink RX5 145 yX5_isPushed, Cond.instanceMethod yX5_isPushed, Cond.selects RX5 yX5_isPushed yX5_isPushed, Cond.code yX5_isPushed cX5_isPushed 5 (some .boolean), Cond.methodLink RX5 136 yX3_trigger, Cond.instanceMethod yX3_trigger, Cond.selects RX3 yX3_trigger yX3_trigger, Cond.code yX3_trigger cX3_trigger 2 (some .int), Cond.methodLink RX3 30 yX3_endsOf, Cond.methodLink RX5 70 yX3_stateAt, Cond.instanceMethod yX3_stateAt, Cond.selects RX3 yX3_stateAt yX3_stateAt, Cond.code yX3_stateAt cX3_stateAt 2 (some .int), Cond.methodLink RX5 155 yX5_sensorsOn, Cond.methodLink RX5 158 yX0_groupOf, Cond.instanceMethod yX0_groupOf, Cond.selects RX0 yX0_groupOf yX0_groupOf, Cond.code yX0_groupOf cX0_groupOf 4 (some .int), Cond.methodLink RX5 161 yX0_isFirst, Cond.instanceMethod yX0_isFirst, Cond.selects RX0 yX0_isFirst yX0_isFirst, Cond.code yX0_isFirst cX0_isFirst 3 (some .boolean), Cond.methodLink RX5 123 yX3_endsOf]
def wsX5_clash : List Cond := .code yX5_clash cX5_clash 2 (some .int) :: ((wsX5_clash_r1 ++ (wsX5_clash_r2 ++ (wsX5_clash_r3 ++ wsX5_clash_r4))) ++ wsX50 ++ wsX30 ++ wsX00)
def wsX5_leastOf : List Cond := .code yX5_leastOf cX5_leastOf 2 (some .int) :: ([.methodLink RX5 139 yX5_has, .static yX5_has, .initialized RX5, .code yX5_has cX5_has 2 (some .boolean)])
def wsX5_clashOf_r1 : List Cond := [Cond.fieldLink RX5 10 "AirSteps" "text" "LAirSteps$Text;", Cond.methodLink RX5 62 yX5_isBelow, Cond.static yX5_isBelow, Cond.initialized RX5, Cond.code yX5_isBelow cX5_isBelow 2 (some .boolean), Cond.methodLink RX5 66 yX3_isSound, Cond.instanceMethod yX3_isSound, Cond.selects RX3 yX3_isSound yX3_isSound, Cond.initialized RX3, Cond.code yX3_isSound cX3_isSound 1 (some .boolean), Cond.methodLink RX3 34 yX3_firstWrong, Cond.instanceMethod yX3_firstWrong, Cond.selects RX3 yX3_firstWrong yX3_firstWrong, Cond.code yX3_firstWrong cX3_firstWrong 2 (some .int), Cond.fieldLink RX3 18 "AirSteps$Text" "size" "I", Cond.fieldLink RX3 9 "AirSteps$Text" "ends" "[I", Cond.fieldLink RX3 15 "AirSteps$Text" "states" "[I", Cond.static yX5_sensorsOn, Cond.code yX5_sensorsOn cX5_sensorsOn 1 (some .int), Cond.methodLink RX5 164 yX5_endsTo, Cond.static yX5_endsTo, Cond.code yX5_endsTo cX5_endsTo 2 (some .int), Cond.methodLink RX5 74 yX5_firstClash, Cond.instanceMethod yX5_firstClash]
def wsX5_clashOf_r2 : List Cond := [Cond.selects RX5 yX5_firstClash yX5_firstClash, Cond.code yX5_firstClash cX5_firstClash 3 (some .int), Cond.fieldLink RX5 19 "AirSteps" "rows" "LAirSteps$Groups;", Cond.methodLink RX5 84 yX0_find, Cond.instanceMethod yX0_find, Cond.selects RX0 yX0_find yX0_find, Cond.initialized RX0, Cond.code yX0_find cX0_find 6 none, Cond.methodLink RX0 26 yX3_size, Cond.instanceMethod yX3_size, Cond.selects RX3 yX3_size yX3_size, Cond.code yX3_size cX3_size 1 (some .int), Cond.methodLink RX0 31 yX0_needsFrom, Cond.instanceMethod yX0_needsFrom, Cond.selects RX0 yX0_needsFrom yX0_needsFrom, Cond.code yX0_needsFrom cX0_needsFrom 4 (some .int), Cond.fieldLink RX0 15 "AirSteps$Groups" "needs" "[I", Cond.methodLink RX0 39 yX0_need, Cond.instanceMethod yX0_need, Cond.selects RX0 yX0_need yX0_need, Cond.code yX0_need cX0_need 9 (some .int), Cond.methodLink RX0 50 Lib.Math.min.name, Cond.static Lib.Math.min.name, Cond.initialized "java/lang/Math"]
def wsX5_clashOf_r3 : List Cond := [Cond.code Lib.Math.min.name Lib.Math.min.code 2 (some .int), Cond.methodLink RX0 43 yX3_endsOf, Cond.instanceMethod yX3_endsOf, Cond.selects RX3 yX3_endsOf yX3_endsOf, Cond.code yX3_endsOf cX3_endsOf 2 (some .int), Cond.static yX5_cylindersOf, Cond.code yX5_cylindersOf cX5_cylindersOf 1 (some .int), Cond.methodLink RX5 149 yX5_outsOf, Cond.static yX5_outsOf, Cond.code yX5_outsOf cX5_outsOf 1 (some .int), Cond.methodLink RX5 152 yX5_insOf, Cond.static yX5_insOf, Cond.code yX5_insOf cX5_insOf 1 (some .int), Cond.methodLink RX0 35 yX0_collect, Cond.instanceMethod yX0_collect, Cond.selects RX0 yX0_collect yX0_collect, Cond.code yX0_collect cX0_collect 5 none, Cond.fieldLink RX0 18 "AirSteps$Groups" "size" "I", Cond.fieldLink RX0 9 "AirSteps$Groups" "cuts" "[I", Cond.methodLink RX5 48 yX3_size, Cond.methodLink RX5 77 yX5_clashing, Cond.instanceMethod yX5_clashing, Cond.selects RX5 yX5_clashing yX5_clashing, Cond.code yX5_clashing cX5_clashing 5 (some .int)]
def wsX5_clashOf_r4 : List Cond := [Cond.methodLink RX5 145 yX5_isPushed, Cond.instanceMethod yX5_isPushed, Cond.selects RX5 yX5_isPushed yX5_isPushed, Cond.code yX5_isPushed cX5_isPushed 5 (some .boolean), Cond.methodLink RX5 136 yX3_trigger, Cond.instanceMethod yX3_trigger, Cond.selects RX3 yX3_trigger yX3_trigger, Cond.code yX3_trigger cX3_trigger 2 (some .int), Cond.methodLink RX3 30 yX3_endsOf, Cond.methodLink RX5 70 yX3_stateAt, Cond.instanceMethod yX3_stateAt, Cond.selects RX3 yX3_stateAt yX3_stateAt, Cond.code yX3_stateAt cX3_stateAt 2 (some .int), Cond.methodLink RX5 155 yX5_sensorsOn, Cond.methodLink RX5 158 yX0_groupOf, Cond.instanceMethod yX0_groupOf, Cond.selects RX0 yX0_groupOf yX0_groupOf, Cond.code yX0_groupOf cX0_groupOf 4 (some .int), Cond.methodLink RX5 161 yX0_isFirst, Cond.instanceMethod yX0_isFirst, Cond.selects RX0 yX0_isFirst yX0_isFirst, Cond.code yX0_isFirst cX0_isFirst 3 (some .boolean), Cond.methodLink RX5 123 yX3_endsOf, Cond.methodLink RX5 81 yX5_leastOf]
def wsX5_clashOf_r5 : List Cond := [Cond.static yX5_leastOf, Cond.code yX5_leastOf cX5_leastOf 2 (some .int), Cond.methodLink RX5 139 yX5_has, Cond.static yX5_has, Cond.code yX5_has cX5_has 2 (some .boolean)]
def wsX5_clashOf : List Cond := .code yX5_clashOf cX5_clashOf 3 (some .int) :: ((wsX5_clashOf_r1 ++ (wsX5_clashOf_r2 ++ (wsX5_clashOf_r3 ++ (wsX5_clashOf_r4 ++ wsX5_clashOf_r5)))) ++ wsX50 ++ wsX30 ++ wsX00)
def wsX5_groups_r1 : List Cond := [Cond.fieldLink RX5 10 "AirSteps" "text" "LAirSteps$Text;", Cond.fieldLink RX5 19 "AirSteps" "rows" "LAirSteps$Groups;", Cond.methodLink RX5 66 yX3_isSound, Cond.instanceMethod yX3_isSound, Cond.selects RX3 yX3_isSound yX3_isSound, Cond.initialized RX3, Cond.code yX3_isSound cX3_isSound 1 (some .boolean), Cond.methodLink RX3 34 yX3_firstWrong, Cond.instanceMethod yX3_firstWrong, Cond.selects RX3 yX3_firstWrong yX3_firstWrong, Cond.code yX3_firstWrong cX3_firstWrong 2 (some .int), Cond.fieldLink RX3 18 "AirSteps$Text" "size" "I", Cond.fieldLink RX3 9 "AirSteps$Text" "ends" "[I", Cond.fieldLink RX3 15 "AirSteps$Text" "states" "[I", Cond.static yX5_sensorsOn, Cond.initialized RX5, Cond.code yX5_sensorsOn cX5_sensorsOn 1 (some .int), Cond.methodLink RX5 164 yX5_endsTo, Cond.static yX5_endsTo, Cond.code yX5_endsTo cX5_endsTo 2 (some .int), Cond.methodLink RX5 84 yX0_find, Cond.instanceMethod yX0_find, Cond.selects RX0 yX0_find yX0_find, Cond.initialized RX0]
def wsX5_groups_r2 : List Cond := [Cond.code yX0_find cX0_find 6 none, Cond.methodLink RX0 26 yX3_size, Cond.instanceMethod yX3_size, Cond.selects RX3 yX3_size yX3_size, Cond.code yX3_size cX3_size 1 (some .int), Cond.methodLink RX0 31 yX0_needsFrom, Cond.instanceMethod yX0_needsFrom, Cond.selects RX0 yX0_needsFrom yX0_needsFrom, Cond.code yX0_needsFrom cX0_needsFrom 4 (some .int), Cond.fieldLink RX0 15 "AirSteps$Groups" "needs" "[I", Cond.methodLink RX0 39 yX0_need, Cond.instanceMethod yX0_need, Cond.selects RX0 yX0_need yX0_need, Cond.code yX0_need cX0_need 9 (some .int), Cond.methodLink RX0 50 Lib.Math.min.name, Cond.static Lib.Math.min.name, Cond.initialized "java/lang/Math", Cond.code Lib.Math.min.name Lib.Math.min.code 2 (some .int), Cond.methodLink RX0 43 yX3_endsOf, Cond.instanceMethod yX3_endsOf, Cond.selects RX3 yX3_endsOf yX3_endsOf, Cond.code yX3_endsOf cX3_endsOf 2 (some .int), Cond.static yX5_isBelow, Cond.code yX5_isBelow cX5_isBelow 2 (some .boolean)]
def wsX5_groups_r3 : List Cond := [Cond.static yX5_cylindersOf, Cond.code yX5_cylindersOf cX5_cylindersOf 1 (some .int), Cond.methodLink RX5 149 yX5_outsOf, Cond.static yX5_outsOf, Cond.code yX5_outsOf cX5_outsOf 1 (some .int), Cond.methodLink RX5 152 yX5_insOf, Cond.static yX5_insOf, Cond.code yX5_insOf cX5_insOf 1 (some .int), Cond.methodLink RX0 35 yX0_collect, Cond.instanceMethod yX0_collect, Cond.selects RX0 yX0_collect yX0_collect, Cond.code yX0_collect cX0_collect 5 none, Cond.fieldLink RX0 18 "AirSteps$Groups" "size" "I", Cond.fieldLink RX0 9 "AirSteps$Groups" "cuts" "[I", Cond.methodLink RX5 88 yX0_size, Cond.instanceMethod yX0_size, Cond.selects RX0 yX0_size yX0_size, Cond.code yX0_size cX0_size 1 (some .int)]
def wsX5_groups : List Cond := .code yX5_groups cX5_groups 1 (some .int) :: ((wsX5_groups_r1 ++ (wsX5_groups_r2 ++ wsX5_groups_r3)) ++ wsX50 ++ wsX30 ++ wsX00)
def wsX5_cut_r1 : List Cond := [Cond.fieldLink RX5 10 "AirSteps" "text" "LAirSteps$Text;", Cond.fieldLink RX5 19 "AirSteps" "rows" "LAirSteps$Groups;", Cond.methodLink RX5 66 yX3_isSound, Cond.instanceMethod yX3_isSound, Cond.selects RX3 yX3_isSound yX3_isSound, Cond.initialized RX3, Cond.code yX3_isSound cX3_isSound 1 (some .boolean), Cond.methodLink RX3 34 yX3_firstWrong, Cond.instanceMethod yX3_firstWrong, Cond.selects RX3 yX3_firstWrong yX3_firstWrong, Cond.code yX3_firstWrong cX3_firstWrong 2 (some .int), Cond.fieldLink RX3 18 "AirSteps$Text" "size" "I", Cond.fieldLink RX3 9 "AirSteps$Text" "ends" "[I", Cond.fieldLink RX3 15 "AirSteps$Text" "states" "[I", Cond.static yX5_sensorsOn, Cond.initialized RX5, Cond.code yX5_sensorsOn cX5_sensorsOn 1 (some .int), Cond.methodLink RX5 164 yX5_endsTo, Cond.static yX5_endsTo, Cond.code yX5_endsTo cX5_endsTo 2 (some .int), Cond.methodLink RX5 84 yX0_find, Cond.instanceMethod yX0_find, Cond.selects RX0 yX0_find yX0_find, Cond.initialized RX0]
def wsX5_cut_r2 : List Cond := [Cond.code yX0_find cX0_find 6 none, Cond.methodLink RX0 26 yX3_size, Cond.instanceMethod yX3_size, Cond.selects RX3 yX3_size yX3_size, Cond.code yX3_size cX3_size 1 (some .int), Cond.methodLink RX0 31 yX0_needsFrom, Cond.instanceMethod yX0_needsFrom, Cond.selects RX0 yX0_needsFrom yX0_needsFrom, Cond.code yX0_needsFrom cX0_needsFrom 4 (some .int), Cond.fieldLink RX0 15 "AirSteps$Groups" "needs" "[I", Cond.methodLink RX0 39 yX0_need, Cond.instanceMethod yX0_need, Cond.selects RX0 yX0_need yX0_need, Cond.code yX0_need cX0_need 9 (some .int), Cond.methodLink RX0 50 Lib.Math.min.name, Cond.static Lib.Math.min.name, Cond.initialized "java/lang/Math", Cond.code Lib.Math.min.name Lib.Math.min.code 2 (some .int), Cond.methodLink RX0 43 yX3_endsOf, Cond.instanceMethod yX3_endsOf, Cond.selects RX3 yX3_endsOf yX3_endsOf, Cond.code yX3_endsOf cX3_endsOf 2 (some .int), Cond.static yX5_isBelow, Cond.code yX5_isBelow cX5_isBelow 2 (some .boolean)]
def wsX5_cut_r3 : List Cond := [Cond.static yX5_cylindersOf, Cond.code yX5_cylindersOf cX5_cylindersOf 1 (some .int), Cond.methodLink RX5 149 yX5_outsOf, Cond.static yX5_outsOf, Cond.code yX5_outsOf cX5_outsOf 1 (some .int), Cond.methodLink RX5 152 yX5_insOf, Cond.static yX5_insOf, Cond.code yX5_insOf cX5_insOf 1 (some .int), Cond.methodLink RX0 35 yX0_collect, Cond.instanceMethod yX0_collect, Cond.selects RX0 yX0_collect yX0_collect, Cond.code yX0_collect cX0_collect 5 none, Cond.fieldLink RX0 18 "AirSteps$Groups" "size" "I", Cond.fieldLink RX0 9 "AirSteps$Groups" "cuts" "[I", Cond.methodLink RX5 88 yX0_size, Cond.instanceMethod yX0_size, Cond.selects RX0 yX0_size yX0_size, Cond.code yX0_size cX0_size 1 (some .int), Cond.methodLink RX5 89 yX0_cutAt, Cond.instanceMethod yX0_cutAt, Cond.selects RX0 yX0_cutAt yX0_cutAt, Cond.code yX0_cutAt cX0_cutAt 2 (some .int)]
def wsX5_cut : List Cond := .code yX5_cut cX5_cut 2 (some .int) :: ((wsX5_cut_r1 ++ (wsX5_cut_r2 ++ wsX5_cut_r3)) ++ wsX50 ++ wsX30 ++ wsX00)
def wsX5_memories_r1 : List Cond := [Cond.fieldLink RX5 10 "AirSteps" "text" "LAirSteps$Text;", Cond.methodLink RX5 66 yX3_isSound, Cond.instanceMethod yX3_isSound, Cond.selects RX3 yX3_isSound yX3_isSound, Cond.initialized RX3, Cond.code yX3_isSound cX3_isSound 1 (some .boolean), Cond.methodLink RX3 34 yX3_firstWrong, Cond.instanceMethod yX3_firstWrong, Cond.selects RX3 yX3_firstWrong yX3_firstWrong, Cond.code yX3_firstWrong cX3_firstWrong 2 (some .int), Cond.fieldLink RX3 18 "AirSteps$Text" "size" "I", Cond.fieldLink RX3 9 "AirSteps$Text" "ends" "[I", Cond.fieldLink RX3 15 "AirSteps$Text" "states" "[I", Cond.static yX5_sensorsOn, Cond.initialized RX5, Cond.code yX5_sensorsOn cX5_sensorsOn 1 (some .int), Cond.methodLink RX5 164 yX5_endsTo, Cond.static yX5_endsTo, Cond.code yX5_endsTo cX5_endsTo 2 (some .int), Cond.methodLink RX5 92 yX3_mostAlike, Cond.instanceMethod yX3_mostAlike, Cond.selects RX3 yX3_mostAlike yX3_mostAlike, Cond.code yX3_mostAlike cX3_mostAlike 3 (some .int), Cond.methodLink RX3 44 Lib.Math.max.name]
def wsX5_memories_r2 : List Cond := [Cond.static Lib.Math.max.name, Cond.initialized "java/lang/Math", Cond.code Lib.Math.max.name Lib.Math.max.code 2 (some .int), Cond.methodLink RX3 41 yX3_alike, Cond.instanceMethod yX3_alike, Cond.selects RX3 yX3_alike yX3_alike, Cond.code yX3_alike cX3_alike 4 (some .int)]
def wsX5_memories : List Cond := .code yX5_memories cX5_memories 3 (some .int) :: ((wsX5_memories_r1 ++ wsX5_memories_r2) ++ wsX50 ++ wsX30)
def wsX5_endOf : List Cond := .code yX5_endOf cX5_endOf 2 (some .int) :: ([])
def wsX5_pace : List Cond := .code yX5_pace cX5_pace 5 (some .int) :: ([.fieldLink RX5 40 "AirSteps" "paces" "LAirSteps$Paces;", .methodLink RX5 62 yX5_isBelow, .static yX5_isBelow, .initialized RX5, .code yX5_isBelow cX5_isBelow 2 (some .boolean), .methodLink RX5 95 yX5_endOf, .static yX5_endOf, .code yX5_endOf cX5_endOf 2 (some .int), .methodLink RX5 99 yX2_put, .instanceMethod yX2_put, .selects RX2 yX2_put yX2_put, .initialized RX2, .code yX2_put cX2_put 4 none, .fieldLink RX2 9 "AirSteps$Paces" "least" "[I", .fieldLink RX2 15 "AirSteps$Paces" "most" "[I"] ++ wsX50 ++ wsX20)
def wsX5_span_r1 : List Cond := [Cond.fieldLink RX5 10 "AirSteps" "text" "LAirSteps$Text;", Cond.fieldLink RX5 40 "AirSteps" "paces" "LAirSteps$Paces;", Cond.methodLink RX5 62 yX5_isBelow, Cond.static yX5_isBelow, Cond.initialized RX5, Cond.code yX5_isBelow cX5_isBelow 2 (some .boolean), Cond.methodLink RX5 66 yX3_isSound, Cond.instanceMethod yX3_isSound, Cond.selects RX3 yX3_isSound yX3_isSound, Cond.initialized RX3, Cond.code yX3_isSound cX3_isSound 1 (some .boolean), Cond.methodLink RX3 34 yX3_firstWrong, Cond.instanceMethod yX3_firstWrong, Cond.selects RX3 yX3_firstWrong yX3_firstWrong, Cond.code yX3_firstWrong cX3_firstWrong 2 (some .int), Cond.fieldLink RX3 18 "AirSteps$Text" "size" "I", Cond.fieldLink RX3 9 "AirSteps$Text" "ends" "[I", Cond.fieldLink RX3 15 "AirSteps$Text" "states" "[I", Cond.static yX5_sensorsOn, Cond.code yX5_sensorsOn cX5_sensorsOn 1 (some .int), Cond.methodLink RX5 164 yX5_endsTo, Cond.static yX5_endsTo, Cond.code yX5_endsTo cX5_endsTo 2 (some .int), Cond.methodLink RX5 103 yX2_leastOfLoop]
def wsX5_span_r2 : List Cond := [Cond.instanceMethod yX2_leastOfLoop, Cond.selects RX2 yX2_leastOfLoop yX2_leastOfLoop, Cond.initialized RX2, Cond.code yX2_leastOfLoop cX2_leastOfLoop 2 (some .int), Cond.fieldLink RX2 9 "AirSteps$Paces" "least" "[I", Cond.methodLink RX2 22 yX2_sum, Cond.static yX2_sum, Cond.code yX2_sum cX2_sum 4 (some .int), Cond.methodLink RX2 26 yX3_size, Cond.instanceMethod yX3_size, Cond.selects RX3 yX3_size yX3_size, Cond.code yX3_size cX3_size 1 (some .int), Cond.methodLink RX2 32 yX3_endsOf, Cond.instanceMethod yX3_endsOf, Cond.selects RX3 yX3_endsOf yX3_endsOf, Cond.code yX3_endsOf cX3_endsOf 2 (some .int), Cond.methodLink RX2 36 yX2_longest, Cond.static yX2_longest, Cond.code yX2_longest cX2_longest 4 (some .int), Cond.methodLink RX2 43 Lib.Math.max.name, Cond.static Lib.Math.max.name, Cond.initialized "java/lang/Math", Cond.code Lib.Math.max.name Lib.Math.max.code 2 (some .int), Cond.static yX5_has]
def wsX5_span_r3 : List Cond := [Cond.code yX5_has cX5_has 2 (some .boolean), Cond.methodLink RX5 107 yX2_mostOfLoop, Cond.instanceMethod yX2_mostOfLoop, Cond.selects RX2 yX2_mostOfLoop yX2_mostOfLoop, Cond.code yX2_mostOfLoop cX2_mostOfLoop 2 (some .int), Cond.fieldLink RX2 15 "AirSteps$Paces" "most" "[I", Cond.methodLink RX5 110 yX2_slowest, Cond.instanceMethod yX2_slowest, Cond.selects RX2 yX2_slowest yX2_slowest, Cond.code yX2_slowest cX2_slowest 6 (some .int)]
def wsX5_span : List Cond := .code yX5_span cX5_span 2 (some .int) :: ((wsX5_span_r1 ++ (wsX5_span_r2 ++ wsX5_span_r3)) ++ wsX50 ++ wsX30 ++ wsX20)
def wsX5_law_r1 : List Cond := [Cond.fieldLink RX5 26 "AirSteps" "laws" "LAirSteps$Laws;", Cond.fieldLink RX5 33 "AirSteps" "ways" "LAirSteps$Ways;", Cond.methodLink RX5 62 yX5_isBelow, Cond.static yX5_isBelow, Cond.initialized RX5, Cond.code yX5_isBelow cX5_isBelow 2 (some .boolean), Cond.methodLink RX5 113 yX1_size, Cond.instanceMethod yX1_size, Cond.selects RX1 yX1_size yX1_size, Cond.initialized RX1, Cond.code yX1_size cX1_size 1 (some .int), Cond.fieldLink RX1 18 "AirSteps$Laws" "size" "I", Cond.methodLink RX5 95 yX5_endOf, Cond.static yX5_endOf, Cond.code yX5_endOf cX5_endOf 2 (some .int), Cond.methodLink RX5 114 yX1_add, Cond.instanceMethod yX1_add, Cond.selects RX1 yX1_add yX1_add, Cond.code yX1_add cX1_add 3 none, Cond.fieldLink RX1 9 "AirSteps$Laws" "barred" "[I", Cond.fieldLink RX1 15 "AirSteps$Laws" "whileAt" "[I", Cond.methodLink RX5 115 yX4_measure, Cond.instanceMethod yX4_measure, Cond.selects RX4 yX4_measure yX4_measure]
def wsX5_law_r2 : List Cond := [Cond.initialized RX4, Cond.code yX4_measure cX4_measure 4 none, Cond.fieldLink RX4 9 "AirSteps$Ways" "lengths" "[I", Cond.fieldLink RX4 15 "AirSteps$Ways" "queue" "[I", Cond.methodLink RX4 24 yX4_reachBack, Cond.instanceMethod yX4_reachBack, Cond.selects RX4 yX4_reachBack yX4_reachBack, Cond.code yX4_reachBack cX4_reachBack 7 (some .int), Cond.methodLink RX4 28 yX1_allowMove, Cond.instanceMethod yX1_allowMove, Cond.selects RX1 yX1_allowMove yX1_allowMove, Cond.code yX1_allowMove cX1_allowMove 4 (some .boolean), Cond.static yX5_endsTo, Cond.code yX5_endsTo cX5_endsTo 2 (some .int), Cond.methodLink RX1 43 yX1_allow, Cond.instanceMethod yX1_allow, Cond.selects RX1 yX1_allow yX1_allow, Cond.code yX1_allow cX1_allow 7 (some .boolean), Cond.static yX5_sensorsOn, Cond.code yX5_sensorsOn cX5_sensorsOn 1 (some .int), Cond.methodLink RX5 164 yX5_endsTo, Cond.static yX5_cylindersOf, Cond.code yX5_cylindersOf cX5_cylindersOf 1 (some .int), Cond.methodLink RX5 149 yX5_outsOf]
def wsX5_law_r3 : List Cond := [Cond.static yX5_outsOf, Cond.code yX5_outsOf cX5_outsOf 1 (some .int), Cond.methodLink RX5 152 yX5_insOf, Cond.static yX5_insOf, Cond.code yX5_insOf cX5_insOf 1 (some .int), Cond.static yX5_has, Cond.code yX5_has cX5_has 2 (some .boolean), Cond.static yX5_cylinderOf, Cond.code yX5_cylinderOf cX5_cylinderOf 1 (some .int)]
def wsX5_law : List Cond := .code yX5_law cX5_law 5 (some .int) :: ((wsX5_law_r1 ++ (wsX5_law_r2 ++ wsX5_law_r3)) ++ wsX50 ++ wsX10 ++ wsX40)
def wsX5_repeal_r1 : List Cond := [Cond.fieldLink RX5 26 "AirSteps" "laws" "LAirSteps$Laws;", Cond.fieldLink RX5 33 "AirSteps" "ways" "LAirSteps$Ways;", Cond.methodLink RX5 113 yX1_size, Cond.instanceMethod yX1_size, Cond.selects RX1 yX1_size yX1_size, Cond.initialized RX1, Cond.code yX1_size cX1_size 1 (some .int), Cond.fieldLink RX1 18 "AirSteps$Laws" "size" "I", Cond.methodLink RX5 62 yX5_isBelow, Cond.static yX5_isBelow, Cond.initialized RX5, Cond.code yX5_isBelow cX5_isBelow 2 (some .boolean), Cond.methodLink RX5 119 yX1_remove, Cond.instanceMethod yX1_remove, Cond.selects RX1 yX1_remove yX1_remove, Cond.code yX1_remove cX1_remove 3 none, Cond.fieldLink RX1 9 "AirSteps$Laws" "barred" "[I", Cond.fieldLink RX1 15 "AirSteps$Laws" "whileAt" "[I", Cond.methodLink RX5 115 yX4_measure, Cond.instanceMethod yX4_measure, Cond.selects RX4 yX4_measure yX4_measure, Cond.initialized RX4, Cond.code yX4_measure cX4_measure 4 none, Cond.fieldLink RX4 9 "AirSteps$Ways" "lengths" "[I"]
def wsX5_repeal_r2 : List Cond := [Cond.fieldLink RX4 15 "AirSteps$Ways" "queue" "[I", Cond.methodLink RX4 24 yX4_reachBack, Cond.instanceMethod yX4_reachBack, Cond.selects RX4 yX4_reachBack yX4_reachBack, Cond.code yX4_reachBack cX4_reachBack 7 (some .int), Cond.methodLink RX4 28 yX1_allowMove, Cond.instanceMethod yX1_allowMove, Cond.selects RX1 yX1_allowMove yX1_allowMove, Cond.code yX1_allowMove cX1_allowMove 4 (some .boolean), Cond.static yX5_endsTo, Cond.code yX5_endsTo cX5_endsTo 2 (some .int), Cond.methodLink RX1 43 yX1_allow, Cond.instanceMethod yX1_allow, Cond.selects RX1 yX1_allow yX1_allow, Cond.code yX1_allow cX1_allow 7 (some .boolean), Cond.static yX5_sensorsOn, Cond.code yX5_sensorsOn cX5_sensorsOn 1 (some .int), Cond.methodLink RX5 164 yX5_endsTo, Cond.static yX5_cylindersOf, Cond.code yX5_cylindersOf cX5_cylindersOf 1 (some .int), Cond.methodLink RX5 149 yX5_outsOf, Cond.static yX5_outsOf, Cond.code yX5_outsOf cX5_outsOf 1 (some .int), Cond.methodLink RX5 152 yX5_insOf]
def wsX5_repeal_r3 : List Cond := [Cond.static yX5_insOf, Cond.code yX5_insOf cX5_insOf 1 (some .int), Cond.static yX5_has, Cond.code yX5_has cX5_has 2 (some .boolean), Cond.static yX5_cylinderOf, Cond.code yX5_cylinderOf cX5_cylinderOf 1 (some .int)]
def wsX5_repeal : List Cond := .code yX5_repeal cX5_repeal 2 (some .int) :: ((wsX5_repeal_r1 ++ (wsX5_repeal_r2 ++ wsX5_repeal_r3)) ++ wsX50 ++ wsX10 ++ wsX40)
def wsX5_breach_r1 : List Cond := [Cond.fieldLink RX5 10 "AirSteps" "text" "LAirSteps$Text;", Cond.fieldLink RX5 26 "AirSteps" "laws" "LAirSteps$Laws;", Cond.methodLink RX5 66 yX3_isSound, Cond.instanceMethod yX3_isSound, Cond.selects RX3 yX3_isSound yX3_isSound, Cond.initialized RX3, Cond.code yX3_isSound cX3_isSound 1 (some .boolean), Cond.methodLink RX3 34 yX3_firstWrong, Cond.instanceMethod yX3_firstWrong, Cond.selects RX3 yX3_firstWrong yX3_firstWrong, Cond.code yX3_firstWrong cX3_firstWrong 2 (some .int), Cond.fieldLink RX3 18 "AirSteps$Text" "size" "I", Cond.fieldLink RX3 9 "AirSteps$Text" "ends" "[I", Cond.fieldLink RX3 15 "AirSteps$Text" "states" "[I", Cond.static yX5_sensorsOn, Cond.initialized RX5, Cond.code yX5_sensorsOn cX5_sensorsOn 1 (some .int), Cond.methodLink RX5 164 yX5_endsTo, Cond.static yX5_endsTo, Cond.code yX5_endsTo cX5_endsTo 2 (some .int), Cond.methodLink RX5 48 yX3_size, Cond.instanceMethod yX3_size, Cond.selects RX3 yX3_size yX3_size, Cond.code yX3_size cX3_size 1 (some .int)]
def wsX5_breach_r2 : List Cond := [Cond.methodLink RX5 123 yX3_endsOf, Cond.instanceMethod yX3_endsOf, Cond.selects RX3 yX3_endsOf yX3_endsOf, Cond.code yX3_endsOf cX3_endsOf 2 (some .int), Cond.static yX5_isBelow, Cond.code yX5_isBelow cX5_isBelow 2 (some .boolean), Cond.methodLink RX5 70 yX3_stateAt, Cond.instanceMethod yX3_stateAt, Cond.selects RX3 yX3_stateAt yX3_stateAt, Cond.code yX3_stateAt cX3_stateAt 2 (some .int), Cond.methodLink RX5 126 yX1_allow, Cond.instanceMethod yX1_allow, Cond.selects RX1 yX1_allow yX1_allow, Cond.initialized RX1, Cond.code yX1_allow cX1_allow 7 (some .boolean), Cond.fieldLink RX1 18 "AirSteps$Laws" "size" "I", Cond.fieldLink RX1 15 "AirSteps$Laws" "whileAt" "[I", Cond.fieldLink RX1 9 "AirSteps$Laws" "barred" "[I", Cond.static yX5_cylindersOf, Cond.code yX5_cylindersOf cX5_cylindersOf 1 (some .int), Cond.methodLink RX5 149 yX5_outsOf, Cond.static yX5_outsOf, Cond.code yX5_outsOf cX5_outsOf 1 (some .int), Cond.methodLink RX5 152 yX5_insOf]
def wsX5_breach_r3 : List Cond := [Cond.static yX5_insOf, Cond.code yX5_insOf cX5_insOf 1 (some .int), Cond.static yX5_has, Cond.code yX5_has cX5_has 2 (some .boolean), Cond.static yX5_cylinderOf, Cond.code yX5_cylinderOf cX5_cylinderOf 1 (some .int)]
def wsX5_breach : List Cond := .code yX5_breach cX5_breach 2 (some .int) :: ((wsX5_breach_r1 ++ (wsX5_breach_r2 ++ wsX5_breach_r3)) ++ wsX50 ++ wsX30 ++ wsX10)
def wsX5_home : List Cond := .code yX5_home cX5_home 2 (some .int) :: ([.fieldLink RX5 33 "AirSteps" "ways" "LAirSteps$Ways;", .methodLink RX5 44 yX5_isState, .static yX5_isState, .initialized RX5, .code yX5_isState cX5_isState 1 (some .boolean), .methodLink RX5 62 yX5_isBelow, .static yX5_isBelow, .code yX5_isBelow cX5_isBelow 2 (some .boolean), .methodLink RX5 129 yX4_length, .instanceMethod yX4_length, .selects RX4 yX4_length yX4_length, .initialized RX4, .code yX4_length cX4_length 2 (some .int), .fieldLink RX4 9 "AirSteps$Ways" "lengths" "[I"] ++ wsX50 ++ wsX40)
def wsX5_way_r1 : List Cond := [Cond.fieldLink RX5 33 "AirSteps" "ways" "LAirSteps$Ways;", Cond.fieldLink RX5 26 "AirSteps" "laws" "LAirSteps$Laws;", Cond.methodLink RX5 44 yX5_isState, Cond.static yX5_isState, Cond.initialized RX5, Cond.code yX5_isState cX5_isState 1 (some .boolean), Cond.methodLink RX5 62 yX5_isBelow, Cond.static yX5_isBelow, Cond.code yX5_isBelow cX5_isBelow 2 (some .boolean), Cond.methodLink RX5 132 yX4_move, Cond.instanceMethod yX4_move, Cond.selects RX4 yX4_move yX4_move, Cond.initialized RX4, Cond.code yX4_move cX4_move 6 (some .int), Cond.methodLink RX4 38 yX4_length, Cond.instanceMethod yX4_length, Cond.selects RX4 yX4_length yX4_length, Cond.code yX4_length cX4_length 2 (some .int), Cond.fieldLink RX4 9 "AirSteps$Ways" "lengths" "[I", Cond.methodLink RX4 41 yX4_nextCylinder, Cond.instanceMethod yX4_nextCylinder, Cond.selects RX4 yX4_nextCylinder yX4_nextCylinder, Cond.code yX4_nextCylinder cX4_nextCylinder 5 (some .int), Cond.methodLink RX4 28 yX1_allowMove]
def wsX5_way_r2 : List Cond := [Cond.instanceMethod yX1_allowMove, Cond.selects RX1 yX1_allowMove yX1_allowMove, Cond.initialized RX1, Cond.code yX1_allowMove cX1_allowMove 4 (some .boolean), Cond.static yX5_endsTo, Cond.code yX5_endsTo cX5_endsTo 2 (some .int), Cond.methodLink RX1 43 yX1_allow, Cond.instanceMethod yX1_allow, Cond.selects RX1 yX1_allow yX1_allow, Cond.code yX1_allow cX1_allow 7 (some .boolean), Cond.fieldLink RX1 18 "AirSteps$Laws" "size" "I", Cond.fieldLink RX1 15 "AirSteps$Laws" "whileAt" "[I", Cond.fieldLink RX1 9 "AirSteps$Laws" "barred" "[I", Cond.static yX5_sensorsOn, Cond.code yX5_sensorsOn cX5_sensorsOn 1 (some .int), Cond.methodLink RX5 164 yX5_endsTo, Cond.static yX5_cylindersOf, Cond.code yX5_cylindersOf cX5_cylindersOf 1 (some .int), Cond.methodLink RX5 149 yX5_outsOf, Cond.static yX5_outsOf, Cond.code yX5_outsOf cX5_outsOf 1 (some .int), Cond.methodLink RX5 152 yX5_insOf, Cond.static yX5_insOf, Cond.code yX5_insOf cX5_insOf 1 (some .int)]
def wsX5_way_r3 : List Cond := [Cond.static yX5_has, Cond.code yX5_has cX5_has 2 (some .boolean), Cond.static yX5_cylinderOf, Cond.code yX5_cylinderOf cX5_cylinderOf 1 (some .int)]
def wsX5_way : List Cond := .code yX5_way cX5_way 3 (some .int) :: ((wsX5_way_r1 ++ (wsX5_way_r2 ++ wsX5_way_r3)) ++ wsX50 ++ wsX40 ++ wsX10)
def wsX5_stops_r1 : List Cond := [Cond.fieldLink RX5 10 "AirSteps" "text" "LAirSteps$Text;", Cond.methodLink RX5 62 yX5_isBelow, Cond.static yX5_isBelow, Cond.initialized RX5, Cond.code yX5_isBelow cX5_isBelow 2 (some .boolean), Cond.methodLink RX5 66 yX3_isSound, Cond.instanceMethod yX3_isSound, Cond.selects RX3 yX3_isSound yX3_isSound, Cond.initialized RX3, Cond.code yX3_isSound cX3_isSound 1 (some .boolean), Cond.methodLink RX3 34 yX3_firstWrong, Cond.instanceMethod yX3_firstWrong, Cond.selects RX3 yX3_firstWrong yX3_firstWrong, Cond.code yX3_firstWrong cX3_firstWrong 2 (some .int), Cond.fieldLink RX3 18 "AirSteps$Text" "size" "I", Cond.fieldLink RX3 9 "AirSteps$Text" "ends" "[I", Cond.fieldLink RX3 15 "AirSteps$Text" "states" "[I", Cond.static yX5_sensorsOn, Cond.code yX5_sensorsOn cX5_sensorsOn 1 (some .int), Cond.methodLink RX5 164 yX5_endsTo, Cond.static yX5_endsTo, Cond.code yX5_endsTo cX5_endsTo 2 (some .int), Cond.methodLink RX5 48 yX3_size, Cond.instanceMethod yX3_size]
def wsX5_stops_r2 : List Cond := [Cond.selects RX3 yX3_size yX3_size, Cond.code yX3_size cX3_size 1 (some .int), Cond.methodLink RX5 136 yX3_trigger, Cond.instanceMethod yX3_trigger, Cond.selects RX3 yX3_trigger yX3_trigger, Cond.code yX3_trigger cX3_trigger 2 (some .int), Cond.methodLink RX3 30 yX3_endsOf, Cond.instanceMethod yX3_endsOf, Cond.selects RX3 yX3_endsOf yX3_endsOf, Cond.code yX3_endsOf cX3_endsOf 2 (some .int), Cond.methodLink RX5 139 yX5_has, Cond.static yX5_has, Cond.code yX5_has cX5_has 2 (some .boolean)]
def wsX5_stops : List Cond := .code yX5_stops cX5_stops 3 (some .int) :: ((wsX5_stops_r1 ++ wsX5_stops_r2) ++ wsX50 ++ wsX30)
def wsX5_explains_r1 : List Cond := [Cond.fieldLink RX5 10 "AirSteps" "text" "LAirSteps$Text;", Cond.methodLink RX5 48 yX3_size, Cond.instanceMethod yX3_size, Cond.selects RX3 yX3_size yX3_size, Cond.initialized RX3, Cond.code yX3_size cX3_size 1 (some .int), Cond.fieldLink RX3 18 "AirSteps$Text" "size" "I", Cond.methodLink RX5 62 yX5_isBelow, Cond.static yX5_isBelow, Cond.initialized RX5, Cond.code yX5_isBelow cX5_isBelow 2 (some .boolean), Cond.methodLink RX5 66 yX3_isSound, Cond.instanceMethod yX3_isSound, Cond.selects RX3 yX3_isSound yX3_isSound, Cond.code yX3_isSound cX3_isSound 1 (some .boolean), Cond.methodLink RX3 34 yX3_firstWrong, Cond.instanceMethod yX3_firstWrong, Cond.selects RX3 yX3_firstWrong yX3_firstWrong, Cond.code yX3_firstWrong cX3_firstWrong 2 (some .int), Cond.fieldLink RX3 9 "AirSteps$Text" "ends" "[I", Cond.fieldLink RX3 15 "AirSteps$Text" "states" "[I", Cond.static yX5_sensorsOn, Cond.code yX5_sensorsOn cX5_sensorsOn 1 (some .int), Cond.methodLink RX5 164 yX5_endsTo]
def wsX5_explains_r2 : List Cond := [Cond.static yX5_endsTo, Cond.code yX5_endsTo cX5_endsTo 2 (some .int), Cond.methodLink RX5 136 yX3_trigger, Cond.instanceMethod yX3_trigger, Cond.selects RX3 yX3_trigger yX3_trigger, Cond.code yX3_trigger cX3_trigger 2 (some .int), Cond.methodLink RX3 30 yX3_endsOf, Cond.instanceMethod yX3_endsOf, Cond.selects RX3 yX3_endsOf yX3_endsOf, Cond.code yX3_endsOf cX3_endsOf 2 (some .int)]
def wsX5_explains : List Cond := .code yX5_explains cX5_explains 4 (some .int) :: ((wsX5_explains_r1 ++ wsX5_explains_r2) ++ wsX50 ++ wsX30)
def wsX5_count_r1 : List Cond := [Cond.fieldLink RX5 10 "AirSteps" "text" "LAirSteps$Text;", Cond.fieldLink RX5 26 "AirSteps" "laws" "LAirSteps$Laws;", Cond.methodLink RX5 48 yX3_size, Cond.instanceMethod yX3_size, Cond.selects RX3 yX3_size yX3_size, Cond.initialized RX3, Cond.code yX3_size cX3_size 1 (some .int), Cond.fieldLink RX3 18 "AirSteps$Text" "size" "I", Cond.methodLink RX5 113 yX1_size, Cond.instanceMethod yX1_size, Cond.selects RX1 yX1_size yX1_size, Cond.initialized RX1, Cond.code yX1_size cX1_size 1 (some .int), Cond.fieldLink RX1 18 "AirSteps$Laws" "size" "I", Cond.methodLink RX5 142 yX3_moves, Cond.instanceMethod yX3_moves, Cond.selects RX3 yX3_moves yX3_moves, Cond.code yX3_moves cX3_moves 3 (some .int), Cond.fieldLink RX3 9 "AirSteps$Text" "ends" "[I", Cond.methodLink RX3 49 yJ6_bitCount_0f7a4, Cond.static yJ6_bitCount_0f7a4, Cond.initialized RJ6, Cond.code yJ6_bitCount_0f7a4 cJ6_bitCount_0f7a4 1 (some .int), Cond.constant RJ6 265 (1431655765)]
def wsX5_count_r2 : List Cond := [Cond.constant RJ6 266 (858993459), Cond.constant RJ6 267 (252645135)]
def wsX5_count : List Cond := .code yX5_count cX5_count 2 (some .int) :: ((wsX5_count_r1 ++ wsX5_count_r2) ++ wsX50 ++ wsX30 ++ wsX10)
def wsX6_init : List Cond := .code yX6_init cX6_init 2 none :: ([.methodLink RX6 1 objectInit, .instanceMethod objectInit, .code objectInit ⟨#[0xb1]⟩ 1 none, .arrayClass .int, .fieldLink RX6 7 "AirStepsModel" "outs" "[I", .fieldLink RX6 13 "AirStepsModel" "ins" "[I", .fieldLink RX6 16 "AirStepsModel" "least" "[I", .fieldLink RX6 19 "AirStepsModel" "most" "[I", .fieldLink RX6 22 "AirStepsModel" "lawA" "[I", .arrayClass .boolean, .fieldLink RX6 25 "AirStepsModel" "lawOut" "[Z", .fieldLink RX6 29 "AirStepsModel" "lawB" "[I", .fieldLink RX6 32 "AirStepsModel" "lawIsOut" "[Z", .fieldLink RX6 35 "AirStepsModel" "states" "[I", .fieldLink RX6 38 "AirStepsModel" "ways" "[I"] ++ wsX60)
def wsX6_in : List Cond := .code yX6_in cX6_in 3 (some .boolean) :: ([])
def wsX6_ones : List Cond := .code yX6_ones cX6_ones 3 (some .int) :: ([])
def wsX6_step : List Cond := .code yX6_step cX6_step 3 (some .int) :: ([.fieldLink RX6 45 "AirStepsModel" "n" "I", .fieldLink RX6 7 "AirStepsModel" "outs" "[I", .fieldLink RX6 13 "AirStepsModel" "ins" "[I", .methodLink RX6 41 yX6_in, .static yX6_in, .initialized RX6, .code yX6_in cX6_in 3 (some .boolean)] ++ wsX60)
def wsX6_drop : List Cond := .code yX6_drop cX6_drop 1 (some .int) :: ([.fieldLink RX6 45 "AirStepsModel" "n" "I"] ++ wsX60)
def wsX6_sound : List Cond := .code yX6_sound cX6_sound 2 (some .int) :: ([.fieldLink RX6 35 "AirStepsModel" "states" "[I", .fieldLink RX6 45 "AirStepsModel" "n" "I", .fieldLink RX6 7 "AirStepsModel" "outs" "[I", .fieldLink RX6 13 "AirStepsModel" "ins" "[I"] ++ wsX60)
def wsX6_isSound : List Cond := .code yX6_isSound cX6_isSound 1 (some .boolean) :: ([.methodLink RX6 49 yX6_sound, .instanceMethod yX6_sound, .selects RX6 yX6_sound yX6_sound, .initialized RX6, .code yX6_sound cX6_sound 2 (some .int), .fieldLink RX6 35 "AirStepsModel" "states" "[I", .fieldLink RX6 45 "AirStepsModel" "n" "I", .fieldLink RX6 7 "AirStepsModel" "outs" "[I", .fieldLink RX6 13 "AirStepsModel" "ins" "[I"] ++ wsX60)
def wsX6_isStep : List Cond := .code yX6_isStep cX6_isStep 2 (some .boolean) :: ([.fieldLink RX6 45 "AirStepsModel" "n" "I", .methodLink RX6 41 yX6_in, .static yX6_in, .initialized RX6, .code yX6_in cX6_in 3 (some .boolean)] ++ wsX60)
def wsX6_state : List Cond := .code yX6_state cX6_state 2 (some .int) :: ([.fieldLink RX6 35 "AirStepsModel" "states" "[I", .methodLink RX6 53 yX6_isStep, .instanceMethod yX6_isStep, .selects RX6 yX6_isStep yX6_isStep, .initialized RX6, .code yX6_isStep cX6_isStep 2 (some .boolean), .fieldLink RX6 45 "AirStepsModel" "n" "I", .methodLink RX6 41 yX6_in, .static yX6_in, .code yX6_in cX6_in 3 (some .boolean), .methodLink RX6 57 yX6_isSound, .instanceMethod yX6_isSound, .selects RX6 yX6_isSound yX6_isSound, .code yX6_isSound cX6_isSound 1 (some .boolean), .methodLink RX6 49 yX6_sound, .instanceMethod yX6_sound, .selects RX6 yX6_sound yX6_sound, .code yX6_sound cX6_sound 2 (some .int), .fieldLink RX6 7 "AirStepsModel" "outs" "[I", .fieldLink RX6 13 "AirStepsModel" "ins" "[I"] ++ wsX60)
def wsX6_ahead : List Cond := .code yX6_ahead cX6_ahead 2 (some .int) :: ([.fieldLink RX6 45 "AirStepsModel" "n" "I"] ++ wsX60)
def wsX6_isOn : List Cond := .code yX6_isOn cX6_isOn 4 (some .boolean) :: ([.fieldLink RX6 7 "AirStepsModel" "outs" "[I", .fieldLink RX6 13 "AirStepsModel" "ins" "[I", .methodLink RX6 61 yX6_ahead, .instanceMethod yX6_ahead, .selects RX6 yX6_ahead yX6_ahead, .initialized RX6, .code yX6_ahead cX6_ahead 2 (some .int), .fieldLink RX6 45 "AirStepsModel" "n" "I"] ++ wsX60)
def wsX6_mayCut : List Cond := .code yX6_mayCut cX6_mayCut 7 (some .boolean) :: ([.fieldLink RX6 45 "AirStepsModel" "n" "I", .fieldLink RX6 7 "AirStepsModel" "outs" "[I", .fieldLink RX6 13 "AirStepsModel" "ins" "[I"] ++ wsX60)
def wsX6_comesFirst : List Cond := .code yX6_comesFirst cX6_comesFirst 3 (some .boolean) :: ([])
def wsX6_findCuts : List Cond := .code yX6_findCuts cX6_findCuts 3 none :: ([.fieldLink RX6 45 "AirStepsModel" "n" "I", .fieldLink RX6 65 "AirStepsModel" "cuts" "I", .methodLink RX6 68 yX6_ones, .static yX6_ones, .initialized RX6, .code yX6_ones cX6_ones 3 (some .int), .methodLink RX6 71 yX6_comesFirst, .static yX6_comesFirst, .code yX6_comesFirst cX6_comesFirst 3 (some .boolean), .methodLink RX6 75 yX6_mayCut, .instanceMethod yX6_mayCut, .selects RX6 yX6_mayCut yX6_mayCut, .code yX6_mayCut cX6_mayCut 7 (some .boolean), .fieldLink RX6 7 "AirStepsModel" "outs" "[I", .fieldLink RX6 13 "AirStepsModel" "ins" "[I"] ++ wsX60)
def wsX6_beginOf : List Cond := .code yX6_beginOf cX6_beginOf 3 (some .int) :: ([.fieldLink RX6 65 "AirStepsModel" "cuts" "I", .methodLink RX6 61 yX6_ahead, .instanceMethod yX6_ahead, .selects RX6 yX6_ahead yX6_ahead, .initialized RX6, .code yX6_ahead cX6_ahead 2 (some .int), .fieldLink RX6 45 "AirStepsModel" "n" "I"] ++ wsX60)
def wsX6_isPushed : List Cond := .code yX6_isPushed cX6_isPushed 5 (some .boolean) :: ([.fieldLink RX6 35 "AirStepsModel" "states" "[I", .methodLink RX6 78 yX6_isOn, .instanceMethod yX6_isOn, .selects RX6 yX6_isOn yX6_isOn, .initialized RX6, .code yX6_isOn cX6_isOn 4 (some .boolean), .fieldLink RX6 7 "AirStepsModel" "outs" "[I", .fieldLink RX6 13 "AirStepsModel" "ins" "[I", .methodLink RX6 61 yX6_ahead, .instanceMethod yX6_ahead, .selects RX6 yX6_ahead yX6_ahead, .code yX6_ahead cX6_ahead 2 (some .int), .fieldLink RX6 45 "AirStepsModel" "n" "I", .methodLink RX6 81 yX6_beginOf, .instanceMethod yX6_beginOf, .selects RX6 yX6_beginOf yX6_beginOf, .code yX6_beginOf cX6_beginOf 3 (some .int), .fieldLink RX6 65 "AirStepsModel" "cuts" "I"] ++ wsX60)
def wsX6_clashAt : List Cond := .code yX6_clashAt cX6_clashAt 5 (some .int) :: ([.fieldLink RX6 45 "AirStepsModel" "n" "I", .fieldLink RX6 7 "AirStepsModel" "outs" "[I", .fieldLink RX6 13 "AirStepsModel" "ins" "[I", .methodLink RX6 84 yX6_isPushed, .instanceMethod yX6_isPushed, .selects RX6 yX6_isPushed yX6_isPushed, .initialized RX6, .code yX6_isPushed cX6_isPushed 5 (some .boolean), .fieldLink RX6 35 "AirStepsModel" "states" "[I", .methodLink RX6 78 yX6_isOn, .instanceMethod yX6_isOn, .selects RX6 yX6_isOn yX6_isOn, .code yX6_isOn cX6_isOn 4 (some .boolean), .methodLink RX6 61 yX6_ahead, .instanceMethod yX6_ahead, .selects RX6 yX6_ahead yX6_ahead, .code yX6_ahead cX6_ahead 2 (some .int), .methodLink RX6 81 yX6_beginOf, .instanceMethod yX6_beginOf, .selects RX6 yX6_beginOf yX6_beginOf, .code yX6_beginOf cX6_beginOf 3 (some .int), .fieldLink RX6 65 "AirStepsModel" "cuts" "I"] ++ wsX60)
def wsX6_firstClash_r1 : List Cond := [Cond.fieldLink RX6 45 "AirStepsModel" "n" "I", Cond.methodLink RX6 87 yX6_findCuts, Cond.instanceMethod yX6_findCuts, Cond.selects RX6 yX6_findCuts yX6_findCuts, Cond.initialized RX6, Cond.code yX6_findCuts cX6_findCuts 3 none, Cond.fieldLink RX6 65 "AirStepsModel" "cuts" "I", Cond.methodLink RX6 68 yX6_ones, Cond.static yX6_ones, Cond.code yX6_ones cX6_ones 3 (some .int), Cond.methodLink RX6 71 yX6_comesFirst, Cond.static yX6_comesFirst, Cond.code yX6_comesFirst cX6_comesFirst 3 (some .boolean), Cond.methodLink RX6 75 yX6_mayCut, Cond.instanceMethod yX6_mayCut, Cond.selects RX6 yX6_mayCut yX6_mayCut, Cond.code yX6_mayCut cX6_mayCut 7 (some .boolean), Cond.fieldLink RX6 7 "AirStepsModel" "outs" "[I", Cond.fieldLink RX6 13 "AirStepsModel" "ins" "[I", Cond.methodLink RX6 90 yX6_clashAt, Cond.instanceMethod yX6_clashAt, Cond.selects RX6 yX6_clashAt yX6_clashAt, Cond.code yX6_clashAt cX6_clashAt 5 (some .int), Cond.methodLink RX6 84 yX6_isPushed]
def wsX6_firstClash_r2 : List Cond := [Cond.instanceMethod yX6_isPushed, Cond.selects RX6 yX6_isPushed yX6_isPushed, Cond.code yX6_isPushed cX6_isPushed 5 (some .boolean), Cond.fieldLink RX6 35 "AirStepsModel" "states" "[I", Cond.methodLink RX6 78 yX6_isOn, Cond.instanceMethod yX6_isOn, Cond.selects RX6 yX6_isOn yX6_isOn, Cond.code yX6_isOn cX6_isOn 4 (some .boolean), Cond.methodLink RX6 61 yX6_ahead, Cond.instanceMethod yX6_ahead, Cond.selects RX6 yX6_ahead yX6_ahead, Cond.code yX6_ahead cX6_ahead 2 (some .int), Cond.methodLink RX6 81 yX6_beginOf, Cond.instanceMethod yX6_beginOf, Cond.selects RX6 yX6_beginOf yX6_beginOf, Cond.code yX6_beginOf cX6_beginOf 3 (some .int)]
def wsX6_firstClash : List Cond := .code yX6_firstClash cX6_firstClash 3 (some .int) :: ((wsX6_firstClash_r1 ++ wsX6_firstClash_r2) ++ wsX60)
def wsX6_clash_r1 : List Cond := [Cond.methodLink RX6 41 yX6_in, Cond.static yX6_in, Cond.initialized RX6, Cond.code yX6_in cX6_in 3 (some .boolean), Cond.methodLink RX6 57 yX6_isSound, Cond.instanceMethod yX6_isSound, Cond.selects RX6 yX6_isSound yX6_isSound, Cond.code yX6_isSound cX6_isSound 1 (some .boolean), Cond.methodLink RX6 49 yX6_sound, Cond.instanceMethod yX6_sound, Cond.selects RX6 yX6_sound yX6_sound, Cond.code yX6_sound cX6_sound 2 (some .int), Cond.fieldLink RX6 35 "AirStepsModel" "states" "[I", Cond.fieldLink RX6 45 "AirStepsModel" "n" "I", Cond.fieldLink RX6 7 "AirStepsModel" "outs" "[I", Cond.fieldLink RX6 13 "AirStepsModel" "ins" "[I", Cond.methodLink RX6 94 yX6_firstClash, Cond.instanceMethod yX6_firstClash, Cond.selects RX6 yX6_firstClash yX6_firstClash, Cond.code yX6_firstClash cX6_firstClash 3 (some .int), Cond.methodLink RX6 87 yX6_findCuts, Cond.instanceMethod yX6_findCuts, Cond.selects RX6 yX6_findCuts yX6_findCuts, Cond.code yX6_findCuts cX6_findCuts 3 none]
def wsX6_clash_r2 : List Cond := [Cond.fieldLink RX6 65 "AirStepsModel" "cuts" "I", Cond.methodLink RX6 68 yX6_ones, Cond.static yX6_ones, Cond.code yX6_ones cX6_ones 3 (some .int), Cond.methodLink RX6 71 yX6_comesFirst, Cond.static yX6_comesFirst, Cond.code yX6_comesFirst cX6_comesFirst 3 (some .boolean), Cond.methodLink RX6 75 yX6_mayCut, Cond.instanceMethod yX6_mayCut, Cond.selects RX6 yX6_mayCut yX6_mayCut, Cond.code yX6_mayCut cX6_mayCut 7 (some .boolean), Cond.methodLink RX6 90 yX6_clashAt, Cond.instanceMethod yX6_clashAt, Cond.selects RX6 yX6_clashAt yX6_clashAt, Cond.code yX6_clashAt cX6_clashAt 5 (some .int), Cond.methodLink RX6 84 yX6_isPushed, Cond.instanceMethod yX6_isPushed, Cond.selects RX6 yX6_isPushed yX6_isPushed, Cond.code yX6_isPushed cX6_isPushed 5 (some .boolean), Cond.methodLink RX6 78 yX6_isOn, Cond.instanceMethod yX6_isOn, Cond.selects RX6 yX6_isOn yX6_isOn, Cond.code yX6_isOn cX6_isOn 4 (some .boolean), Cond.methodLink RX6 61 yX6_ahead]
def wsX6_clash_r3 : List Cond := [Cond.instanceMethod yX6_ahead, Cond.selects RX6 yX6_ahead yX6_ahead, Cond.code yX6_ahead cX6_ahead 2 (some .int), Cond.methodLink RX6 81 yX6_beginOf, Cond.instanceMethod yX6_beginOf, Cond.selects RX6 yX6_beginOf yX6_beginOf, Cond.code yX6_beginOf cX6_beginOf 3 (some .int)]
def wsX6_clash : List Cond := .code yX6_clash cX6_clash 2 (some .int) :: ((wsX6_clash_r1 ++ (wsX6_clash_r2 ++ wsX6_clash_r3)) ++ wsX60)
def wsX6_clashOf_r1 : List Cond := [Cond.methodLink RX6 41 yX6_in, Cond.static yX6_in, Cond.initialized RX6, Cond.code yX6_in cX6_in 3 (some .boolean), Cond.methodLink RX6 57 yX6_isSound, Cond.instanceMethod yX6_isSound, Cond.selects RX6 yX6_isSound yX6_isSound, Cond.code yX6_isSound cX6_isSound 1 (some .boolean), Cond.methodLink RX6 49 yX6_sound, Cond.instanceMethod yX6_sound, Cond.selects RX6 yX6_sound yX6_sound, Cond.code yX6_sound cX6_sound 2 (some .int), Cond.fieldLink RX6 35 "AirStepsModel" "states" "[I", Cond.fieldLink RX6 45 "AirStepsModel" "n" "I", Cond.fieldLink RX6 7 "AirStepsModel" "outs" "[I", Cond.fieldLink RX6 13 "AirStepsModel" "ins" "[I", Cond.methodLink RX6 94 yX6_firstClash, Cond.instanceMethod yX6_firstClash, Cond.selects RX6 yX6_firstClash yX6_firstClash, Cond.code yX6_firstClash cX6_firstClash 3 (some .int), Cond.methodLink RX6 87 yX6_findCuts, Cond.instanceMethod yX6_findCuts, Cond.selects RX6 yX6_findCuts yX6_findCuts, Cond.code yX6_findCuts cX6_findCuts 3 none]
def wsX6_clashOf_r2 : List Cond := [Cond.fieldLink RX6 65 "AirStepsModel" "cuts" "I", Cond.methodLink RX6 68 yX6_ones, Cond.static yX6_ones, Cond.code yX6_ones cX6_ones 3 (some .int), Cond.methodLink RX6 71 yX6_comesFirst, Cond.static yX6_comesFirst, Cond.code yX6_comesFirst cX6_comesFirst 3 (some .boolean), Cond.methodLink RX6 75 yX6_mayCut, Cond.instanceMethod yX6_mayCut, Cond.selects RX6 yX6_mayCut yX6_mayCut, Cond.code yX6_mayCut cX6_mayCut 7 (some .boolean), Cond.methodLink RX6 90 yX6_clashAt, Cond.instanceMethod yX6_clashAt, Cond.selects RX6 yX6_clashAt yX6_clashAt, Cond.code yX6_clashAt cX6_clashAt 5 (some .int), Cond.methodLink RX6 84 yX6_isPushed, Cond.instanceMethod yX6_isPushed, Cond.selects RX6 yX6_isPushed yX6_isPushed, Cond.code yX6_isPushed cX6_isPushed 5 (some .boolean), Cond.methodLink RX6 78 yX6_isOn, Cond.instanceMethod yX6_isOn, Cond.selects RX6 yX6_isOn yX6_isOn, Cond.code yX6_isOn cX6_isOn 4 (some .boolean), Cond.methodLink RX6 61 yX6_ahead]
def wsX6_clashOf_r3 : List Cond := [Cond.instanceMethod yX6_ahead, Cond.selects RX6 yX6_ahead yX6_ahead, Cond.code yX6_ahead cX6_ahead 2 (some .int), Cond.methodLink RX6 81 yX6_beginOf, Cond.instanceMethod yX6_beginOf, Cond.selects RX6 yX6_beginOf yX6_beginOf, Cond.code yX6_beginOf cX6_beginOf 3 (some .int)]
def wsX6_clashOf : List Cond := .code yX6_clashOf cX6_clashOf 4 (some .int) :: ((wsX6_clashOf_r1 ++ (wsX6_clashOf_r2 ++ wsX6_clashOf_r3)) ++ wsX60)
def wsX6_groups_r1 : List Cond := [Cond.fieldLink RX6 65 "AirStepsModel" "cuts" "I", Cond.methodLink RX6 57 yX6_isSound, Cond.instanceMethod yX6_isSound, Cond.selects RX6 yX6_isSound yX6_isSound, Cond.initialized RX6, Cond.code yX6_isSound cX6_isSound 1 (some .boolean), Cond.methodLink RX6 49 yX6_sound, Cond.instanceMethod yX6_sound, Cond.selects RX6 yX6_sound yX6_sound, Cond.code yX6_sound cX6_sound 2 (some .int), Cond.fieldLink RX6 35 "AirStepsModel" "states" "[I", Cond.fieldLink RX6 45 "AirStepsModel" "n" "I", Cond.fieldLink RX6 7 "AirStepsModel" "outs" "[I", Cond.fieldLink RX6 13 "AirStepsModel" "ins" "[I", Cond.methodLink RX6 87 yX6_findCuts, Cond.instanceMethod yX6_findCuts, Cond.selects RX6 yX6_findCuts yX6_findCuts, Cond.code yX6_findCuts cX6_findCuts 3 none, Cond.methodLink RX6 68 yX6_ones, Cond.static yX6_ones, Cond.code yX6_ones cX6_ones 3 (some .int), Cond.methodLink RX6 71 yX6_comesFirst, Cond.static yX6_comesFirst, Cond.code yX6_comesFirst cX6_comesFirst 3 (some .boolean)]
def wsX6_groups_r2 : List Cond := [Cond.methodLink RX6 75 yX6_mayCut, Cond.instanceMethod yX6_mayCut, Cond.selects RX6 yX6_mayCut yX6_mayCut, Cond.code yX6_mayCut cX6_mayCut 7 (some .boolean)]
def wsX6_groups : List Cond := .code yX6_groups cX6_groups 1 (some .int) :: ((wsX6_groups_r1 ++ wsX6_groups_r2) ++ wsX60)
def wsX6_cut_r1 : List Cond := [Cond.fieldLink RX6 45 "AirStepsModel" "n" "I", Cond.fieldLink RX6 65 "AirStepsModel" "cuts" "I", Cond.methodLink RX6 57 yX6_isSound, Cond.instanceMethod yX6_isSound, Cond.selects RX6 yX6_isSound yX6_isSound, Cond.initialized RX6, Cond.code yX6_isSound cX6_isSound 1 (some .boolean), Cond.methodLink RX6 49 yX6_sound, Cond.instanceMethod yX6_sound, Cond.selects RX6 yX6_sound yX6_sound, Cond.code yX6_sound cX6_sound 2 (some .int), Cond.fieldLink RX6 35 "AirStepsModel" "states" "[I", Cond.fieldLink RX6 7 "AirStepsModel" "outs" "[I", Cond.fieldLink RX6 13 "AirStepsModel" "ins" "[I", Cond.methodLink RX6 87 yX6_findCuts, Cond.instanceMethod yX6_findCuts, Cond.selects RX6 yX6_findCuts yX6_findCuts, Cond.code yX6_findCuts cX6_findCuts 3 none, Cond.methodLink RX6 68 yX6_ones, Cond.static yX6_ones, Cond.code yX6_ones cX6_ones 3 (some .int), Cond.methodLink RX6 71 yX6_comesFirst, Cond.static yX6_comesFirst, Cond.code yX6_comesFirst cX6_comesFirst 3 (some .boolean)]
def wsX6_cut_r2 : List Cond := [Cond.methodLink RX6 75 yX6_mayCut, Cond.instanceMethod yX6_mayCut, Cond.selects RX6 yX6_mayCut yX6_mayCut, Cond.code yX6_mayCut cX6_mayCut 7 (some .boolean)]
def wsX6_cut : List Cond := .code yX6_cut cX6_cut 4 (some .int) :: ((wsX6_cut_r1 ++ wsX6_cut_r2) ++ wsX60)
def wsX6_memories : List Cond := .code yX6_memories cX6_memories 5 (some .int) :: ([.fieldLink RX6 45 "AirStepsModel" "n" "I", .fieldLink RX6 35 "AirStepsModel" "states" "[I", .methodLink RX6 57 yX6_isSound, .instanceMethod yX6_isSound, .selects RX6 yX6_isSound yX6_isSound, .initialized RX6, .code yX6_isSound cX6_isSound 1 (some .boolean), .methodLink RX6 49 yX6_sound, .instanceMethod yX6_sound, .selects RX6 yX6_sound yX6_sound, .code yX6_sound cX6_sound 2 (some .int), .fieldLink RX6 7 "AirStepsModel" "outs" "[I", .fieldLink RX6 13 "AirStepsModel" "ins" "[I"] ++ wsX60)
def wsX6_isCylinder : List Cond := .code yX6_isCylinder cX6_isCylinder 1 (some .boolean) :: ([.methodLink RX6 41 yX6_in, .static yX6_in, .initialized RX6, .code yX6_in cX6_in 3 (some .boolean)])
def wsX6_pace : List Cond := .code yX6_pace cX6_pace 6 (some .int) :: ([.fieldLink RX6 16 "AirStepsModel" "least" "[I", .fieldLink RX6 19 "AirStepsModel" "most" "[I", .methodLink RX6 97 yX6_isCylinder, .static yX6_isCylinder, .initialized RX6, .code yX6_isCylinder cX6_isCylinder 1 (some .boolean), .methodLink RX6 41 yX6_in, .static yX6_in, .code yX6_in cX6_in 3 (some .boolean)] ++ wsX60)
def wsX6_greatestOf : List Cond := .code yX6_greatestOf cX6_greatestOf 5 (some .int) :: ([.fieldLink RX6 13 "AirStepsModel" "ins" "[I", .fieldLink RX6 7 "AirStepsModel" "outs" "[I"] ++ wsX60)
def wsX6_span : List Cond := .code yX6_span cX6_span 5 (some .int) :: ([.fieldLink RX6 45 "AirStepsModel" "n" "I", .fieldLink RX6 16 "AirStepsModel" "least" "[I", .fieldLink RX6 19 "AirStepsModel" "most" "[I", .methodLink RX6 41 yX6_in, .static yX6_in, .initialized RX6, .code yX6_in cX6_in 3 (some .boolean), .methodLink RX6 57 yX6_isSound, .instanceMethod yX6_isSound, .selects RX6 yX6_isSound yX6_isSound, .code yX6_isSound cX6_isSound 1 (some .boolean), .methodLink RX6 49 yX6_sound, .instanceMethod yX6_sound, .selects RX6 yX6_sound yX6_sound, .code yX6_sound cX6_sound 2 (some .int), .fieldLink RX6 35 "AirStepsModel" "states" "[I", .fieldLink RX6 7 "AirStepsModel" "outs" "[I", .fieldLink RX6 13 "AirStepsModel" "ins" "[I", .methodLink RX6 100 yX6_greatestOf, .instanceMethod yX6_greatestOf, .selects RX6 yX6_greatestOf yX6_greatestOf, .code yX6_greatestOf cX6_greatestOf 5 (some .int)] ++ wsX60)
def wsX6_law : List Cond := .code yX6_law cX6_law 5 (some .int) :: ([.fieldLink RX6 104 "AirStepsModel" "laws" "I", .fieldLink RX6 22 "AirStepsModel" "lawA" "[I", .fieldLink RX6 25 "AirStepsModel" "lawOut" "[Z", .fieldLink RX6 29 "AirStepsModel" "lawB" "[I", .fieldLink RX6 32 "AirStepsModel" "lawIsOut" "[Z", .methodLink RX6 97 yX6_isCylinder, .static yX6_isCylinder, .initialized RX6, .code yX6_isCylinder cX6_isCylinder 1 (some .boolean), .methodLink RX6 41 yX6_in, .static yX6_in, .code yX6_in cX6_in 3 (some .boolean)] ++ wsX60)
def wsX6_repeal : List Cond := .code yX6_repeal cX6_repeal 3 (some .int) :: ([.fieldLink RX6 104 "AirStepsModel" "laws" "I", .fieldLink RX6 22 "AirStepsModel" "lawA" "[I", .fieldLink RX6 25 "AirStepsModel" "lawOut" "[Z", .fieldLink RX6 29 "AirStepsModel" "lawB" "[I", .fieldLink RX6 32 "AirStepsModel" "lawIsOut" "[Z", .methodLink RX6 41 yX6_in, .static yX6_in, .initialized RX6, .code yX6_in cX6_in 3 (some .boolean)] ++ wsX60)
def wsX6_breaks : List Cond := .code yX6_breaks cX6_breaks 9 (some .boolean) :: ([.fieldLink RX6 104 "AirStepsModel" "laws" "I", .fieldLink RX6 25 "AirStepsModel" "lawOut" "[Z", .fieldLink RX6 22 "AirStepsModel" "lawA" "[I", .fieldLink RX6 29 "AirStepsModel" "lawB" "[I", .fieldLink RX6 32 "AirStepsModel" "lawIsOut" "[Z"] ++ wsX60)
def wsX6_breach : List Cond := .code yX6_breach cX6_breach 2 (some .int) :: ([.fieldLink RX6 45 "AirStepsModel" "n" "I", .fieldLink RX6 7 "AirStepsModel" "outs" "[I", .fieldLink RX6 13 "AirStepsModel" "ins" "[I", .fieldLink RX6 35 "AirStepsModel" "states" "[I", .methodLink RX6 57 yX6_isSound, .instanceMethod yX6_isSound, .selects RX6 yX6_isSound yX6_isSound, .initialized RX6, .code yX6_isSound cX6_isSound 1 (some .boolean), .methodLink RX6 49 yX6_sound, .instanceMethod yX6_sound, .selects RX6 yX6_sound yX6_sound, .code yX6_sound cX6_sound 2 (some .int), .methodLink RX6 107 yX6_breaks, .instanceMethod yX6_breaks, .selects RX6 yX6_breaks yX6_breaks, .code yX6_breaks cX6_breaks 9 (some .boolean), .fieldLink RX6 104 "AirStepsModel" "laws" "I", .fieldLink RX6 25 "AirStepsModel" "lawOut" "[Z", .fieldLink RX6 22 "AirStepsModel" "lawA" "[I", .fieldLink RX6 29 "AirStepsModel" "lawB" "[I", .fieldLink RX6 32 "AirStepsModel" "lawIsOut" "[Z"] ++ wsX60)
def wsX6_mayMove : List Cond := .code yX6_mayMove cX6_mayMove 4 (some .boolean) :: ([.methodLink RX6 107 yX6_breaks, .instanceMethod yX6_breaks, .selects RX6 yX6_breaks yX6_breaks, .initialized RX6, .code yX6_breaks cX6_breaks 9 (some .boolean), .fieldLink RX6 104 "AirStepsModel" "laws" "I", .fieldLink RX6 25 "AirStepsModel" "lawOut" "[Z", .fieldLink RX6 22 "AirStepsModel" "lawA" "[I", .fieldLink RX6 29 "AirStepsModel" "lawB" "[I", .fieldLink RX6 32 "AirStepsModel" "lawIsOut" "[Z"] ++ wsX60)
def wsX6_layWays : List Cond := .code yX6_layWays cX6_layWays 4 none :: ([.fieldLink RX6 38 "AirStepsModel" "ways" "[I", .methodLink RX6 110 yX6_mayMove, .instanceMethod yX6_mayMove, .selects RX6 yX6_mayMove yX6_mayMove, .initialized RX6, .code yX6_mayMove cX6_mayMove 4 (some .boolean), .methodLink RX6 107 yX6_breaks, .instanceMethod yX6_breaks, .selects RX6 yX6_breaks yX6_breaks, .code yX6_breaks cX6_breaks 9 (some .boolean), .fieldLink RX6 104 "AirStepsModel" "laws" "I", .fieldLink RX6 25 "AirStepsModel" "lawOut" "[Z", .fieldLink RX6 22 "AirStepsModel" "lawA" "[I", .fieldLink RX6 29 "AirStepsModel" "lawB" "[I", .fieldLink RX6 32 "AirStepsModel" "lawIsOut" "[Z"] ++ wsX60)
def wsX6_home : List Cond := .code yX6_home cX6_home 2 (some .int) :: ([.fieldLink RX6 38 "AirStepsModel" "ways" "[I", .methodLink RX6 41 yX6_in, .static yX6_in, .initialized RX6, .code yX6_in cX6_in 3 (some .boolean), .methodLink RX6 113 yX6_layWays, .instanceMethod yX6_layWays, .selects RX6 yX6_layWays yX6_layWays, .code yX6_layWays cX6_layWays 4 none, .methodLink RX6 110 yX6_mayMove, .instanceMethod yX6_mayMove, .selects RX6 yX6_mayMove yX6_mayMove, .code yX6_mayMove cX6_mayMove 4 (some .boolean), .methodLink RX6 107 yX6_breaks, .instanceMethod yX6_breaks, .selects RX6 yX6_breaks yX6_breaks, .code yX6_breaks cX6_breaks 9 (some .boolean), .fieldLink RX6 104 "AirStepsModel" "laws" "I", .fieldLink RX6 25 "AirStepsModel" "lawOut" "[Z", .fieldLink RX6 22 "AirStepsModel" "lawA" "[I", .fieldLink RX6 29 "AirStepsModel" "lawB" "[I", .fieldLink RX6 32 "AirStepsModel" "lawIsOut" "[Z"] ++ wsX60)
def wsX6_way : List Cond := .code yX6_way cX6_way 7 (some .int) :: ([.fieldLink RX6 38 "AirStepsModel" "ways" "[I", .methodLink RX6 41 yX6_in, .static yX6_in, .initialized RX6, .code yX6_in cX6_in 3 (some .boolean), .methodLink RX6 113 yX6_layWays, .instanceMethod yX6_layWays, .selects RX6 yX6_layWays yX6_layWays, .code yX6_layWays cX6_layWays 4 none, .methodLink RX6 110 yX6_mayMove, .instanceMethod yX6_mayMove, .selects RX6 yX6_mayMove yX6_mayMove, .code yX6_mayMove cX6_mayMove 4 (some .boolean), .methodLink RX6 107 yX6_breaks, .instanceMethod yX6_breaks, .selects RX6 yX6_breaks yX6_breaks, .code yX6_breaks cX6_breaks 9 (some .boolean), .fieldLink RX6 104 "AirStepsModel" "laws" "I", .fieldLink RX6 25 "AirStepsModel" "lawOut" "[Z", .fieldLink RX6 22 "AirStepsModel" "lawA" "[I", .fieldLink RX6 29 "AirStepsModel" "lawB" "[I", .fieldLink RX6 32 "AirStepsModel" "lawIsOut" "[Z"] ++ wsX60)
def wsX6_has : List Cond := .code yX6_has cX6_has 4 (some .boolean) :: ([.fieldLink RX6 13 "AirStepsModel" "ins" "[I", .fieldLink RX6 7 "AirStepsModel" "outs" "[I", .methodLink RX6 61 yX6_ahead, .instanceMethod yX6_ahead, .selects RX6 yX6_ahead yX6_ahead, .initialized RX6, .code yX6_ahead cX6_ahead 2 (some .int), .fieldLink RX6 45 "AirStepsModel" "n" "I"] ++ wsX60)
def wsX6_stopOf : List Cond := .code yX6_stopOf cX6_stopOf 3 (some .int) :: ([.fieldLink RX6 45 "AirStepsModel" "n" "I", .methodLink RX6 116 yX6_has, .instanceMethod yX6_has, .selects RX6 yX6_has yX6_has, .initialized RX6, .code yX6_has cX6_has 4 (some .boolean), .fieldLink RX6 13 "AirStepsModel" "ins" "[I", .fieldLink RX6 7 "AirStepsModel" "outs" "[I", .methodLink RX6 61 yX6_ahead, .instanceMethod yX6_ahead, .selects RX6 yX6_ahead yX6_ahead, .code yX6_ahead cX6_ahead 2 (some .int)] ++ wsX60)
def wsX6_stops_r1 : List Cond := [Cond.methodLink RX6 41 yX6_in, Cond.static yX6_in, Cond.initialized RX6, Cond.code yX6_in cX6_in 3 (some .boolean), Cond.methodLink RX6 57 yX6_isSound, Cond.instanceMethod yX6_isSound, Cond.selects RX6 yX6_isSound yX6_isSound, Cond.code yX6_isSound cX6_isSound 1 (some .boolean), Cond.methodLink RX6 49 yX6_sound, Cond.instanceMethod yX6_sound, Cond.selects RX6 yX6_sound yX6_sound, Cond.code yX6_sound cX6_sound 2 (some .int), Cond.fieldLink RX6 35 "AirStepsModel" "states" "[I", Cond.fieldLink RX6 45 "AirStepsModel" "n" "I", Cond.fieldLink RX6 7 "AirStepsModel" "outs" "[I", Cond.fieldLink RX6 13 "AirStepsModel" "ins" "[I", Cond.methodLink RX6 119 yX6_stopOf, Cond.instanceMethod yX6_stopOf, Cond.selects RX6 yX6_stopOf yX6_stopOf, Cond.code yX6_stopOf cX6_stopOf 3 (some .int), Cond.methodLink RX6 116 yX6_has, Cond.instanceMethod yX6_has, Cond.selects RX6 yX6_has yX6_has, Cond.code yX6_has cX6_has 4 (some .boolean)]
def wsX6_stops_r2 : List Cond := [Cond.methodLink RX6 61 yX6_ahead, Cond.instanceMethod yX6_ahead, Cond.selects RX6 yX6_ahead yX6_ahead, Cond.code yX6_ahead cX6_ahead 2 (some .int)]
def wsX6_stops : List Cond := .code yX6_stops cX6_stops 2 (some .int) :: ((wsX6_stops_r1 ++ wsX6_stops_r2) ++ wsX60)
def wsX6_explains_r1 : List Cond := [Cond.methodLink RX6 53 yX6_isStep, Cond.instanceMethod yX6_isStep, Cond.selects RX6 yX6_isStep yX6_isStep, Cond.initialized RX6, Cond.code yX6_isStep cX6_isStep 2 (some .boolean), Cond.fieldLink RX6 45 "AirStepsModel" "n" "I", Cond.methodLink RX6 41 yX6_in, Cond.static yX6_in, Cond.code yX6_in cX6_in 3 (some .boolean), Cond.methodLink RX6 57 yX6_isSound, Cond.instanceMethod yX6_isSound, Cond.selects RX6 yX6_isSound yX6_isSound, Cond.code yX6_isSound cX6_isSound 1 (some .boolean), Cond.methodLink RX6 49 yX6_sound, Cond.instanceMethod yX6_sound, Cond.selects RX6 yX6_sound yX6_sound, Cond.code yX6_sound cX6_sound 2 (some .int), Cond.fieldLink RX6 35 "AirStepsModel" "states" "[I", Cond.fieldLink RX6 7 "AirStepsModel" "outs" "[I", Cond.fieldLink RX6 13 "AirStepsModel" "ins" "[I", Cond.methodLink RX6 119 yX6_stopOf, Cond.instanceMethod yX6_stopOf, Cond.selects RX6 yX6_stopOf yX6_stopOf, Cond.code yX6_stopOf cX6_stopOf 3 (some .int)]
def wsX6_explains_r2 : List Cond := [Cond.methodLink RX6 116 yX6_has, Cond.instanceMethod yX6_has, Cond.selects RX6 yX6_has yX6_has, Cond.code yX6_has cX6_has 4 (some .boolean), Cond.methodLink RX6 61 yX6_ahead, Cond.instanceMethod yX6_ahead, Cond.selects RX6 yX6_ahead yX6_ahead, Cond.code yX6_ahead cX6_ahead 2 (some .int)]
def wsX6_explains : List Cond := .code yX6_explains cX6_explains 4 (some .int) :: ((wsX6_explains_r1 ++ wsX6_explains_r2) ++ wsX60)
def wsX6_count : List Cond := .code yX6_count cX6_count 4 (some .int) :: ([.fieldLink RX6 45 "AirStepsModel" "n" "I", .fieldLink RX6 104 "AirStepsModel" "laws" "I", .fieldLink RX6 7 "AirStepsModel" "outs" "[I", .fieldLink RX6 13 "AirStepsModel" "ins" "[I", .methodLink RX6 68 yX6_ones, .static yX6_ones, .initialized RX6, .code yX6_ones cX6_ones 3 (some .int)] ++ wsX60)
def wsJ9_max_7cf53 : List Cond := .code yJ9_max_7cf53 cJ9_max_7cf53 2 (some .int) :: ([])
def wsJ9_min_7cf53 : List Cond := .code yJ9_min_7cf53 cJ9_min_7cf53 2 (some .int) :: ([])
def wsL_law_r1 : List Cond := [Cond.classLink RL 7 RX5, Cond.instantiable RX5 5, Cond.initialized RX5, Cond.classLink RL 10 RX6, Cond.instantiable RX6 13, Cond.initialized RX6, Cond.methodLink RL 9 yX5_init, Cond.instanceMethod yX5_init, Cond.code yX5_init cX5_init 1 none, Cond.methodLink RX5 1 objectInit, Cond.instanceMethod objectInit, Cond.code objectInit ⟨#[0xb1]⟩ 1 none, Cond.classLink RX5 7 RX3, Cond.instantiable RX3 3, Cond.initialized RX3, Cond.fieldLink RX5 10 "AirSteps" "text" "LAirSteps$Text;", Cond.classLink RX5 16 RX0, Cond.instantiable RX0 3, Cond.initialized RX0, Cond.fieldLink RX5 19 "AirSteps" "rows" "LAirSteps$Groups;", Cond.classLink RX5 23 RX1, Cond.instantiable RX1 3, Cond.initialized RX1, Cond.fieldLink RX5 26 "AirSteps" "laws" "LAirSteps$Laws;"]
def wsL_law_r2 : List Cond := [Cond.classLink RX5 30 RX4, Cond.instantiable RX4 2, Cond.initialized RX4, Cond.fieldLink RX5 33 "AirSteps" "ways" "LAirSteps$Ways;", Cond.classLink RX5 37 RX2, Cond.instantiable RX2 2, Cond.initialized RX2, Cond.fieldLink RX5 40 "AirSteps" "paces" "LAirSteps$Paces;", Cond.instanceMethod yX3_init, Cond.code yX3_init cX3_init 1 none, Cond.methodLink RX3 3 objectInit, Cond.arrayClass .int, Cond.fieldLink RX3 9 "AirSteps$Text" "ends" "[I", Cond.fieldLink RX3 15 "AirSteps$Text" "states" "[I", Cond.fieldLink RX3 18 "AirSteps$Text" "size" "I", Cond.instanceMethod yX0_init, Cond.code yX0_init cX0_init 1 none, Cond.methodLink RX0 3 objectInit, Cond.fieldLink RX0 9 "AirSteps$Groups" "cuts" "[I", Cond.fieldLink RX0 15 "AirSteps$Groups" "needs" "[I", Cond.fieldLink RX0 18 "AirSteps$Groups" "size" "I", Cond.instanceMethod yX1_init, Cond.code yX1_init cX1_init 1 none, Cond.methodLink RX1 3 objectInit]
def wsL_law_r3 : List Cond := [Cond.fieldLink RX1 9 "AirSteps$Laws" "barred" "[I", Cond.fieldLink RX1 15 "AirSteps$Laws" "whileAt" "[I", Cond.fieldLink RX1 18 "AirSteps$Laws" "size" "I", Cond.methodLink RX5 32 yX4_init, Cond.instanceMethod yX4_init, Cond.code yX4_init cX4_init 2 none, Cond.methodLink RX4 3 objectInit, Cond.fieldLink RX4 9 "AirSteps$Ways" "lengths" "[I", Cond.fieldLink RX4 15 "AirSteps$Ways" "queue" "[I", Cond.methodLink RX4 18 yJ6_bitCount_0f7a4, Cond.static yJ6_bitCount_0f7a4, Cond.initialized RJ6, Cond.code yJ6_bitCount_0f7a4 cJ6_bitCount_0f7a4 1 (some .int), Cond.constant RJ6 265 (1431655765), Cond.constant RJ6 266 (858993459), Cond.constant RJ6 267 (252645135), Cond.methodLink RX5 39 yX2_init, Cond.instanceMethod yX2_init, Cond.code yX2_init cX2_init 2 none, Cond.methodLink RX2 3 objectInit, Cond.fieldLink RX2 9 "AirSteps$Paces" "least" "[I", Cond.fieldLink RX2 15 "AirSteps$Paces" "most" "[I", Cond.methodLink RL 12 yX6_init, Cond.instanceMethod yX6_init]
def wsL_law_r4 : List Cond := [Cond.code yX6_init cX6_init 2 none, Cond.methodLink RX6 1 objectInit, Cond.fieldLink RX6 7 "AirStepsModel" "outs" "[I", Cond.fieldLink RX6 13 "AirStepsModel" "ins" "[I", Cond.fieldLink RX6 16 "AirStepsModel" "least" "[I", Cond.fieldLink RX6 19 "AirStepsModel" "most" "[I", Cond.fieldLink RX6 22 "AirStepsModel" "lawA" "[I", Cond.arrayClass .boolean, Cond.fieldLink RX6 25 "AirStepsModel" "lawOut" "[Z", Cond.fieldLink RX6 29 "AirStepsModel" "lawB" "[I", Cond.fieldLink RX6 32 "AirStepsModel" "lawIsOut" "[Z", Cond.fieldLink RX6 35 "AirStepsModel" "states" "[I", Cond.fieldLink RX6 38 "AirStepsModel" "ways" "[I", Cond.methodLink RL 13 yX5_step, Cond.instanceMethod yX5_step, Cond.selects RX5 yX5_step yX5_step, Cond.code yX5_step cX5_step 3 (some .int), Cond.methodLink RX5 44 yX5_isState, Cond.static yX5_isState, Cond.code yX5_isState cX5_isState 1 (some .boolean), Cond.methodLink RX5 62 yX5_isBelow, Cond.static yX5_isBelow, Cond.code yX5_isBelow cX5_isBelow 2 (some .boolean), Cond.methodLink RX5 48 yX3_size]
def wsL_law_r5 : List Cond := [Cond.instanceMethod yX3_size, Cond.selects RX3 yX3_size yX3_size, Cond.code yX3_size cX3_size 1 (some .int), Cond.methodLink RX5 52 yX3_add, Cond.instanceMethod yX3_add, Cond.selects RX3 yX3_add yX3_add, Cond.code yX3_add cX3_add 3 none, Cond.static yX5_endsTo, Cond.code yX5_endsTo cX5_endsTo 2 (some .int), Cond.methodLink RL 17 yX6_step, Cond.instanceMethod yX6_step, Cond.selects RX6 yX6_step yX6_step, Cond.code yX6_step cX6_step 3 (some .int), Cond.fieldLink RX6 45 "AirStepsModel" "n" "I", Cond.methodLink RX6 41 yX6_in, Cond.static yX6_in, Cond.code yX6_in cX6_in 3 (some .boolean), Cond.methodLink RL 18 yX5_drop, Cond.instanceMethod yX5_drop, Cond.selects RX5 yX5_drop yX5_drop, Cond.code yX5_drop cX5_drop 1 (some .int), Cond.methodLink RX5 56 yX3_removeLast, Cond.instanceMethod yX3_removeLast, Cond.selects RX3 yX3_removeLast yX3_removeLast]
def wsL_law_r6 : List Cond := [Cond.code yX3_removeLast cX3_removeLast 1 none, Cond.methodLink RL 22 yX6_drop, Cond.instanceMethod yX6_drop, Cond.selects RX6 yX6_drop yX6_drop, Cond.code yX6_drop cX6_drop 1 (some .int), Cond.methodLink RL 23 yX5_sound, Cond.instanceMethod yX5_sound, Cond.selects RX5 yX5_sound yX5_sound, Cond.code yX5_sound cX5_sound 1 (some .int), Cond.methodLink RX5 59 yX3_firstWrong, Cond.instanceMethod yX3_firstWrong, Cond.selects RX3 yX3_firstWrong yX3_firstWrong, Cond.code yX3_firstWrong cX3_firstWrong 2 (some .int), Cond.static yX5_sensorsOn, Cond.code yX5_sensorsOn cX5_sensorsOn 1 (some .int), Cond.methodLink RX5 164 yX5_endsTo, Cond.methodLink RL 26 yX6_sound, Cond.instanceMethod yX6_sound, Cond.selects RX6 yX6_sound yX6_sound, Cond.code yX6_sound cX6_sound 2 (some .int), Cond.methodLink RL 27 yX5_state, Cond.instanceMethod yX5_state, Cond.selects RX5 yX5_state yX5_state, Cond.code yX5_state cX5_state 2 (some .int)]
def wsL_law_r7 : List Cond := [Cond.methodLink RX5 66 yX3_isSound, Cond.instanceMethod yX3_isSound, Cond.selects RX3 yX3_isSound yX3_isSound, Cond.code yX3_isSound cX3_isSound 1 (some .boolean), Cond.methodLink RX3 34 yX3_firstWrong, Cond.methodLink RX5 70 yX3_stateAt, Cond.instanceMethod yX3_stateAt, Cond.selects RX3 yX3_stateAt yX3_stateAt, Cond.code yX3_stateAt cX3_stateAt 2 (some .int), Cond.methodLink RL 31 yX6_state, Cond.instanceMethod yX6_state, Cond.selects RX6 yX6_state yX6_state, Cond.code yX6_state cX6_state 2 (some .int), Cond.methodLink RX6 53 yX6_isStep, Cond.instanceMethod yX6_isStep, Cond.selects RX6 yX6_isStep yX6_isStep, Cond.code yX6_isStep cX6_isStep 2 (some .boolean), Cond.methodLink RX6 57 yX6_isSound, Cond.instanceMethod yX6_isSound, Cond.selects RX6 yX6_isSound yX6_isSound, Cond.code yX6_isSound cX6_isSound 1 (some .boolean), Cond.methodLink RX6 49 yX6_sound, Cond.methodLink RL 32 yX5_clash, Cond.instanceMethod yX5_clash]
def wsL_law_r8 : List Cond := [Cond.selects RX5 yX5_clash yX5_clash, Cond.code yX5_clash cX5_clash 2 (some .int), Cond.methodLink RX5 74 yX5_firstClash, Cond.instanceMethod yX5_firstClash, Cond.selects RX5 yX5_firstClash yX5_firstClash, Cond.code yX5_firstClash cX5_firstClash 3 (some .int), Cond.methodLink RX5 84 yX0_find, Cond.instanceMethod yX0_find, Cond.selects RX0 yX0_find yX0_find, Cond.code yX0_find cX0_find 6 none, Cond.methodLink RX0 26 yX3_size, Cond.methodLink RX0 31 yX0_needsFrom, Cond.instanceMethod yX0_needsFrom, Cond.selects RX0 yX0_needsFrom yX0_needsFrom, Cond.code yX0_needsFrom cX0_needsFrom 4 (some .int), Cond.methodLink RX0 39 yX0_need, Cond.instanceMethod yX0_need, Cond.selects RX0 yX0_need yX0_need, Cond.code yX0_need cX0_need 9 (some .int), Cond.methodLink RX0 50 Lib.Math.min.name, Cond.static Lib.Math.min.name, Cond.initialized "java/lang/Math", Cond.code Lib.Math.min.name Lib.Math.min.code 2 (some .int), Cond.methodLink RX0 43 yX3_endsOf]
def wsL_law_r9 : List Cond := [Cond.instanceMethod yX3_endsOf, Cond.selects RX3 yX3_endsOf yX3_endsOf, Cond.code yX3_endsOf cX3_endsOf 2 (some .int), Cond.static yX5_cylindersOf, Cond.code yX5_cylindersOf cX5_cylindersOf 1 (some .int), Cond.methodLink RX5 149 yX5_outsOf, Cond.static yX5_outsOf, Cond.code yX5_outsOf cX5_outsOf 1 (some .int), Cond.methodLink RX5 152 yX5_insOf, Cond.static yX5_insOf, Cond.code yX5_insOf cX5_insOf 1 (some .int), Cond.methodLink RX0 35 yX0_collect, Cond.instanceMethod yX0_collect, Cond.selects RX0 yX0_collect yX0_collect, Cond.code yX0_collect cX0_collect 5 none, Cond.methodLink RX5 77 yX5_clashing, Cond.instanceMethod yX5_clashing, Cond.selects RX5 yX5_clashing yX5_clashing, Cond.code yX5_clashing cX5_clashing 5 (some .int), Cond.methodLink RX5 145 yX5_isPushed, Cond.instanceMethod yX5_isPushed, Cond.selects RX5 yX5_isPushed yX5_isPushed, Cond.code yX5_isPushed cX5_isPushed 5 (some .boolean), Cond.methodLink RX5 136 yX3_trigger]
def wsL_law_r10 : List Cond := [Cond.instanceMethod yX3_trigger, Cond.selects RX3 yX3_trigger yX3_trigger, Cond.code yX3_trigger cX3_trigger 2 (some .int), Cond.methodLink RX3 30 yX3_endsOf, Cond.methodLink RX5 155 yX5_sensorsOn, Cond.methodLink RX5 158 yX0_groupOf, Cond.instanceMethod yX0_groupOf, Cond.selects RX0 yX0_groupOf yX0_groupOf, Cond.code yX0_groupOf cX0_groupOf 4 (some .int), Cond.methodLink RX5 161 yX0_isFirst, Cond.instanceMethod yX0_isFirst, Cond.selects RX0 yX0_isFirst yX0_isFirst, Cond.code yX0_isFirst cX0_isFirst 3 (some .boolean), Cond.methodLink RX5 123 yX3_endsOf, Cond.methodLink RL 35 yX6_clash, Cond.instanceMethod yX6_clash, Cond.selects RX6 yX6_clash yX6_clash, Cond.code yX6_clash cX6_clash 2 (some .int), Cond.methodLink RX6 94 yX6_firstClash, Cond.instanceMethod yX6_firstClash, Cond.selects RX6 yX6_firstClash yX6_firstClash, Cond.code yX6_firstClash cX6_firstClash 3 (some .int), Cond.methodLink RX6 87 yX6_findCuts, Cond.instanceMethod yX6_findCuts]
def wsL_law_r11 : List Cond := [Cond.selects RX6 yX6_findCuts yX6_findCuts, Cond.code yX6_findCuts cX6_findCuts 3 none, Cond.fieldLink RX6 65 "AirStepsModel" "cuts" "I", Cond.methodLink RX6 68 yX6_ones, Cond.static yX6_ones, Cond.code yX6_ones cX6_ones 3 (some .int), Cond.methodLink RX6 71 yX6_comesFirst, Cond.static yX6_comesFirst, Cond.code yX6_comesFirst cX6_comesFirst 3 (some .boolean), Cond.methodLink RX6 75 yX6_mayCut, Cond.instanceMethod yX6_mayCut, Cond.selects RX6 yX6_mayCut yX6_mayCut, Cond.code yX6_mayCut cX6_mayCut 7 (some .boolean), Cond.methodLink RX6 90 yX6_clashAt, Cond.instanceMethod yX6_clashAt, Cond.selects RX6 yX6_clashAt yX6_clashAt, Cond.code yX6_clashAt cX6_clashAt 5 (some .int), Cond.methodLink RX6 84 yX6_isPushed, Cond.instanceMethod yX6_isPushed, Cond.selects RX6 yX6_isPushed yX6_isPushed, Cond.code yX6_isPushed cX6_isPushed 5 (some .boolean), Cond.methodLink RX6 78 yX6_isOn, Cond.instanceMethod yX6_isOn, Cond.selects RX6 yX6_isOn yX6_isOn]
def wsL_law_r12 : List Cond := [Cond.code yX6_isOn cX6_isOn 4 (some .boolean), Cond.methodLink RX6 61 yX6_ahead, Cond.instanceMethod yX6_ahead, Cond.selects RX6 yX6_ahead yX6_ahead, Cond.code yX6_ahead cX6_ahead 2 (some .int), Cond.methodLink RX6 81 yX6_beginOf, Cond.instanceMethod yX6_beginOf, Cond.selects RX6 yX6_beginOf yX6_beginOf, Cond.code yX6_beginOf cX6_beginOf 3 (some .int), Cond.methodLink RL 36 yX5_clashOf, Cond.instanceMethod yX5_clashOf, Cond.selects RX5 yX5_clashOf yX5_clashOf, Cond.code yX5_clashOf cX5_clashOf 3 (some .int), Cond.methodLink RX5 81 yX5_leastOf, Cond.static yX5_leastOf, Cond.code yX5_leastOf cX5_leastOf 2 (some .int), Cond.methodLink RX5 139 yX5_has, Cond.static yX5_has, Cond.code yX5_has cX5_has 2 (some .boolean), Cond.methodLink RL 39 yX6_clashOf, Cond.instanceMethod yX6_clashOf, Cond.selects RX6 yX6_clashOf yX6_clashOf, Cond.code yX6_clashOf cX6_clashOf 4 (some .int), Cond.methodLink RL 40 yX5_groups]
def wsL_law_r13 : List Cond := [Cond.instanceMethod yX5_groups, Cond.selects RX5 yX5_groups yX5_groups, Cond.code yX5_groups cX5_groups 1 (some .int), Cond.methodLink RX5 88 yX0_size, Cond.instanceMethod yX0_size, Cond.selects RX0 yX0_size yX0_size, Cond.code yX0_size cX0_size 1 (some .int), Cond.methodLink RL 43 yX6_groups, Cond.instanceMethod yX6_groups, Cond.selects RX6 yX6_groups yX6_groups, Cond.code yX6_groups cX6_groups 1 (some .int), Cond.methodLink RL 44 yX5_cut, Cond.instanceMethod yX5_cut, Cond.selects RX5 yX5_cut yX5_cut, Cond.code yX5_cut cX5_cut 2 (some .int), Cond.methodLink RX5 89 yX0_cutAt, Cond.instanceMethod yX0_cutAt, Cond.selects RX0 yX0_cutAt yX0_cutAt, Cond.code yX0_cutAt cX0_cutAt 2 (some .int), Cond.methodLink RL 47 yX6_cut, Cond.instanceMethod yX6_cut, Cond.selects RX6 yX6_cut yX6_cut, Cond.code yX6_cut cX6_cut 4 (some .int), Cond.methodLink RL 48 yX5_memories]
def wsL_law_r14 : List Cond := [Cond.instanceMethod yX5_memories, Cond.selects RX5 yX5_memories yX5_memories, Cond.code yX5_memories cX5_memories 3 (some .int), Cond.methodLink RX5 92 yX3_mostAlike, Cond.instanceMethod yX3_mostAlike, Cond.selects RX3 yX3_mostAlike yX3_mostAlike, Cond.code yX3_mostAlike cX3_mostAlike 3 (some .int), Cond.methodLink RX3 44 Lib.Math.max.name, Cond.static Lib.Math.max.name, Cond.code Lib.Math.max.name Lib.Math.max.code 2 (some .int), Cond.methodLink RX3 41 yX3_alike, Cond.instanceMethod yX3_alike, Cond.selects RX3 yX3_alike yX3_alike, Cond.code yX3_alike cX3_alike 4 (some .int), Cond.methodLink RL 51 yX6_memories, Cond.instanceMethod yX6_memories, Cond.selects RX6 yX6_memories yX6_memories, Cond.code yX6_memories cX6_memories 5 (some .int), Cond.methodLink RL 52 yX5_pace, Cond.instanceMethod yX5_pace, Cond.selects RX5 yX5_pace yX5_pace, Cond.code yX5_pace cX5_pace 5 (some .int), Cond.methodLink RX5 95 yX5_endOf, Cond.static yX5_endOf]
def wsL_law_r15 : List Cond := [Cond.code yX5_endOf cX5_endOf 2 (some .int), Cond.methodLink RX5 99 yX2_put, Cond.instanceMethod yX2_put, Cond.selects RX2 yX2_put yX2_put, Cond.code yX2_put cX2_put 4 none, Cond.methodLink RL 56 yX6_pace, Cond.instanceMethod yX6_pace, Cond.selects RX6 yX6_pace yX6_pace, Cond.code yX6_pace cX6_pace 6 (some .int), Cond.methodLink RX6 97 yX6_isCylinder, Cond.static yX6_isCylinder, Cond.code yX6_isCylinder cX6_isCylinder 1 (some .boolean), Cond.methodLink RL 57 yX5_span, Cond.instanceMethod yX5_span, Cond.selects RX5 yX5_span yX5_span, Cond.code yX5_span cX5_span 2 (some .int), Cond.methodLink RX5 103 yX2_leastOfLoop, Cond.instanceMethod yX2_leastOfLoop, Cond.selects RX2 yX2_leastOfLoop yX2_leastOfLoop, Cond.code yX2_leastOfLoop cX2_leastOfLoop 2 (some .int), Cond.methodLink RX2 22 yX2_sum, Cond.static yX2_sum, Cond.code yX2_sum cX2_sum 4 (some .int), Cond.methodLink RX2 26 yX3_size]
def wsL_law_r16 : List Cond := [Cond.methodLink RX2 32 yX3_endsOf, Cond.methodLink RX2 36 yX2_longest, Cond.static yX2_longest, Cond.code yX2_longest cX2_longest 4 (some .int), Cond.methodLink RX2 43 Lib.Math.max.name, Cond.methodLink RX5 107 yX2_mostOfLoop, Cond.instanceMethod yX2_mostOfLoop, Cond.selects RX2 yX2_mostOfLoop yX2_mostOfLoop, Cond.code yX2_mostOfLoop cX2_mostOfLoop 2 (some .int), Cond.methodLink RX5 110 yX2_slowest, Cond.instanceMethod yX2_slowest, Cond.selects RX2 yX2_slowest yX2_slowest, Cond.code yX2_slowest cX2_slowest 6 (some .int), Cond.methodLink RL 60 yX6_span, Cond.instanceMethod yX6_span, Cond.selects RX6 yX6_span yX6_span, Cond.code yX6_span cX6_span 5 (some .int), Cond.methodLink RX6 100 yX6_greatestOf, Cond.instanceMethod yX6_greatestOf, Cond.selects RX6 yX6_greatestOf yX6_greatestOf, Cond.code yX6_greatestOf cX6_greatestOf 5 (some .int), Cond.methodLink RL 61 yX5_law, Cond.instanceMethod yX5_law, Cond.selects RX5 yX5_law yX5_law]
def wsL_law_r17 : List Cond := [Cond.code yX5_law cX5_law 5 (some .int), Cond.methodLink RX5 113 yX1_size, Cond.instanceMethod yX1_size, Cond.selects RX1 yX1_size yX1_size, Cond.code yX1_size cX1_size 1 (some .int), Cond.methodLink RX5 114 yX1_add, Cond.instanceMethod yX1_add, Cond.selects RX1 yX1_add yX1_add, Cond.code yX1_add cX1_add 3 none, Cond.methodLink RX5 115 yX4_measure, Cond.instanceMethod yX4_measure, Cond.selects RX4 yX4_measure yX4_measure, Cond.code yX4_measure cX4_measure 4 none, Cond.methodLink RX4 24 yX4_reachBack, Cond.instanceMethod yX4_reachBack, Cond.selects RX4 yX4_reachBack yX4_reachBack, Cond.code yX4_reachBack cX4_reachBack 7 (some .int), Cond.methodLink RX4 28 yX1_allowMove, Cond.instanceMethod yX1_allowMove, Cond.selects RX1 yX1_allowMove yX1_allowMove, Cond.code yX1_allowMove cX1_allowMove 4 (some .boolean), Cond.methodLink RX1 43 yX1_allow, Cond.instanceMethod yX1_allow, Cond.selects RX1 yX1_allow yX1_allow]
def wsL_law_r18 : List Cond := [Cond.code yX1_allow cX1_allow 7 (some .boolean), Cond.static yX5_cylinderOf, Cond.code yX5_cylinderOf cX5_cylinderOf 1 (some .int), Cond.methodLink RL 65 yX6_law, Cond.instanceMethod yX6_law, Cond.selects RX6 yX6_law yX6_law, Cond.code yX6_law cX6_law 5 (some .int), Cond.fieldLink RX6 104 "AirStepsModel" "laws" "I", Cond.methodLink RL 66 yX5_repeal, Cond.instanceMethod yX5_repeal, Cond.selects RX5 yX5_repeal yX5_repeal, Cond.code yX5_repeal cX5_repeal 2 (some .int), Cond.methodLink RX5 119 yX1_remove, Cond.instanceMethod yX1_remove, Cond.selects RX1 yX1_remove yX1_remove, Cond.code yX1_remove cX1_remove 3 none, Cond.methodLink RL 69 yX6_repeal, Cond.instanceMethod yX6_repeal, Cond.selects RX6 yX6_repeal yX6_repeal, Cond.code yX6_repeal cX6_repeal 3 (some .int), Cond.methodLink RL 70 yX5_breach, Cond.instanceMethod yX5_breach, Cond.selects RX5 yX5_breach yX5_breach, Cond.code yX5_breach cX5_breach 2 (some .int)]
def wsL_law_r19 : List Cond := [Cond.methodLink RX5 126 yX1_allow, Cond.methodLink RL 73 yX6_breach, Cond.instanceMethod yX6_breach, Cond.selects RX6 yX6_breach yX6_breach, Cond.code yX6_breach cX6_breach 2 (some .int), Cond.methodLink RX6 107 yX6_breaks, Cond.instanceMethod yX6_breaks, Cond.selects RX6 yX6_breaks yX6_breaks, Cond.code yX6_breaks cX6_breaks 9 (some .boolean), Cond.methodLink RL 74 yX5_home, Cond.instanceMethod yX5_home, Cond.selects RX5 yX5_home yX5_home, Cond.code yX5_home cX5_home 2 (some .int), Cond.methodLink RX5 129 yX4_length, Cond.instanceMethod yX4_length, Cond.selects RX4 yX4_length yX4_length, Cond.code yX4_length cX4_length 2 (some .int), Cond.methodLink RL 77 yX6_home, Cond.instanceMethod yX6_home, Cond.selects RX6 yX6_home yX6_home, Cond.code yX6_home cX6_home 2 (some .int), Cond.methodLink RX6 113 yX6_layWays, Cond.instanceMethod yX6_layWays, Cond.selects RX6 yX6_layWays yX6_layWays]
def wsL_law_r20 : List Cond := [Cond.code yX6_layWays cX6_layWays 4 none, Cond.methodLink RX6 110 yX6_mayMove, Cond.instanceMethod yX6_mayMove, Cond.selects RX6 yX6_mayMove yX6_mayMove, Cond.code yX6_mayMove cX6_mayMove 4 (some .boolean), Cond.methodLink RL 78 yX5_way, Cond.instanceMethod yX5_way, Cond.selects RX5 yX5_way yX5_way, Cond.code yX5_way cX5_way 3 (some .int), Cond.methodLink RX5 132 yX4_move, Cond.instanceMethod yX4_move, Cond.selects RX4 yX4_move yX4_move, Cond.code yX4_move cX4_move 6 (some .int), Cond.methodLink RX4 38 yX4_length, Cond.methodLink RX4 41 yX4_nextCylinder, Cond.instanceMethod yX4_nextCylinder, Cond.selects RX4 yX4_nextCylinder yX4_nextCylinder, Cond.code yX4_nextCylinder cX4_nextCylinder 5 (some .int), Cond.methodLink RL 81 yX6_way, Cond.instanceMethod yX6_way, Cond.selects RX6 yX6_way yX6_way, Cond.code yX6_way cX6_way 7 (some .int), Cond.methodLink RL 82 yX5_stops, Cond.instanceMethod yX5_stops]
def wsL_law_r21 : List Cond := [Cond.selects RX5 yX5_stops yX5_stops, Cond.code yX5_stops cX5_stops 3 (some .int), Cond.methodLink RL 85 yX6_stops, Cond.instanceMethod yX6_stops, Cond.selects RX6 yX6_stops yX6_stops, Cond.code yX6_stops cX6_stops 2 (some .int), Cond.methodLink RX6 119 yX6_stopOf, Cond.instanceMethod yX6_stopOf, Cond.selects RX6 yX6_stopOf yX6_stopOf, Cond.code yX6_stopOf cX6_stopOf 3 (some .int), Cond.methodLink RX6 116 yX6_has, Cond.instanceMethod yX6_has, Cond.selects RX6 yX6_has yX6_has, Cond.code yX6_has cX6_has 4 (some .boolean), Cond.methodLink RL 86 yX5_explains, Cond.instanceMethod yX5_explains, Cond.selects RX5 yX5_explains yX5_explains, Cond.code yX5_explains cX5_explains 4 (some .int), Cond.methodLink RL 89 yX6_explains, Cond.instanceMethod yX6_explains, Cond.selects RX6 yX6_explains yX6_explains, Cond.code yX6_explains cX6_explains 4 (some .int), Cond.methodLink RL 90 yX5_count, Cond.instanceMethod yX5_count]
def wsL_law_r22 : List Cond := [Cond.selects RX5 yX5_count yX5_count, Cond.code yX5_count cX5_count 2 (some .int), Cond.methodLink RX5 142 yX3_moves, Cond.instanceMethod yX3_moves, Cond.selects RX3 yX3_moves yX3_moves, Cond.code yX3_moves cX3_moves 3 (some .int), Cond.methodLink RX3 49 yJ6_bitCount_0f7a4, Cond.methodLink RL 93 yX6_count, Cond.instanceMethod yX6_count, Cond.selects RX6 yX6_count yX6_count, Cond.code yX6_count cX6_count 4 (some .int)]
def wsL_law : List Cond := (wsL_law_r1 ++ (wsL_law_r2 ++ (wsL_law_r3 ++ (wsL_law_r4 ++ (wsL_law_r5 ++ (wsL_law_r6 ++ (wsL_law_r7 ++ (wsL_law_r8 ++ (wsL_law_r9 ++ (wsL_law_r10 ++ (wsL_law_r11 ++ (wsL_law_r12 ++ (wsL_law_r13 ++ (wsL_law_r14 ++ (wsL_law_r15 ++ (wsL_law_r16 ++ (wsL_law_r17 ++ (wsL_law_r18 ++ (wsL_law_r19 ++ (wsL_law_r20 ++ (wsL_law_r21 ++ wsL_law_r22))))))))))))))))))))) ++ wsX50 ++ wsX60 ++ wsX30 ++ wsX00 ++ wsX10 ++ wsX40 ++ wsX20 ++ ([] : List Cond)
end
section
theorem mem_ps {big : List Cond} (ws : List Cond) (ps : List Nat) (hp : ws = ps.filterMap (fun i => big[i]?)) : ∀ w ∈ ws, w ∈ big := by
  intro w hw
  rw [hp] at hw
  obtain ⟨i, -, hi⟩ := List.mem_filterMap.mp hw
  exact List.mem_of_getElem? hi
set_option maxRecDepth 20000 in
theorem wsL_in_r1 : ∀ w ∈ wsL_law_r1, w ∈ lw_tbl := mem_ps _ [35, 36, 26, 428, 429, 33, 37, 38, 39, 40, 41, 42, 43, 44, 27, 124, 60, 61, 28, 125, 76, 77, 29, 126] (by decide +kernel)
set_option maxRecDepth 20000 in
theorem wsL_in_r2 : ∀ w ∈ wsL_law_r2, w ∈ lw_tbl := mem_ps _ [92, 93, 30, 127, 111, 112, 32, 128, 46, 47, 48, 59, 49, 50, 51, 63, 64, 65, 66, 67, 68, 79, 80, 81] (by decide +kernel)
set_option maxRecDepth 20000 in
theorem wsL_in_r3 : ∀ w ∈ wsL_law_r3, w ∈ lw_tbl := mem_ps _ [82, 83, 84, 94, 95, 96, 97, 104, 105, 98, 99, 31, 100, 101, 102, 103, 113, 114, 115, 116, 117, 118, 430, 431] (by decide +kernel)
set_option maxRecDepth 20000 in
theorem wsL_in_r4 : ∀ w ∈ wsL_law_r4, w ∈ lw_tbl := mem_ps _ [432, 433, 435, 436, 437, 438, 440, 474, 441, 442, 443, 444, 446, 140, 141, 142, 143, 144, 145, 146, 147, 148, 149, 150] (by decide +kernel)
set_option maxRecDepth 20000 in
theorem wsL_in_r5 : ∀ w ∈ wsL_law_r5, w ∈ lw_tbl := mem_ps _ [151, 152, 153, 154, 155, 156, 157, 159, 160, 475, 476, 477, 478, 434, 479, 480, 481, 161, 162, 163, 164, 165, 166, 167] (by decide +kernel)
set_option maxRecDepth 20000 in
theorem wsL_in_r6 : ∀ w ∈ wsL_law_r6, w ∈ lw_tbl := mem_ps _ [168, 482, 483, 484, 485, 169, 170, 171, 172, 173, 174, 175, 176, 178, 179, 180, 486, 487, 488, 489, 181, 182, 183, 184] (by decide +kernel)
set_option maxRecDepth 20000 in
theorem wsL_in_r7 : ∀ w ∈ wsL_law_r7, w ∈ lw_tbl := mem_ps _ [185, 186, 187, 188, 189, 190, 191, 192, 193, 490, 491, 492, 493, 494, 496, 9, 497, 498, 500, 10, 501, 502, 195, 196] (by decide +kernel)
set_option maxRecDepth 20000 in
theorem wsL_in_r8 : ∀ w ∈ wsL_law_r8, w ∈ lw_tbl := mem_ps _ [197, 198, 199, 201, 0, 202, 203, 204, 205, 206, 207, 208, 210, 1, 211, 212, 214, 2, 215, 229, 230, 34, 231, 216] (by decide +kernel)
set_option maxRecDepth 20000 in
theorem wsL_in_r9 : ∀ w ∈ wsL_law_r9, w ∈ lw_tbl := mem_ps _ [217, 218, 219, 221, 222, 223, 224, 225, 226, 227, 228, 232, 234, 3, 235, 236, 238, 4, 239, 240, 242, 5, 243, 244] (by decide +kernel)
set_option maxRecDepth 20000 in
theorem wsL_in_r10 : ∀ w ∈ wsL_law_r10, w ∈ lw_tbl := mem_ps _ [245, 246, 247, 248, 249, 250, 251, 252, 253, 254, 255, 256, 257, 258, 503, 504, 505, 506, 507, 509, 11, 510, 511, 513] (by decide +kernel)
set_option maxRecDepth 20000 in
theorem wsL_in_r11 : ∀ w ∈ wsL_law_r11, w ∈ lw_tbl := mem_ps _ [12, 514, 445, 515, 516, 517, 518, 519, 520, 521, 523, 13, 524, 525, 527, 14, 528, 529, 531, 15, 532, 533, 535, 16] (by decide +kernel)
set_option maxRecDepth 20000 in
theorem wsL_in_r12 : ∀ w ∈ wsL_law_r12, w ∈ lw_tbl := mem_ps _ [536, 537, 539, 17, 540, 541, 543, 18, 544, 259, 260, 261, 262, 263, 264, 265, 266, 267, 268, 545, 546, 547, 548, 269] (by decide +kernel)
set_option maxRecDepth 20000 in
theorem wsL_in_r13 : ∀ w ∈ wsL_law_r13, w ∈ lw_tbl := mem_ps _ [270, 271, 272, 273, 274, 275, 276, 549, 550, 551, 552, 277, 278, 279, 280, 281, 282, 283, 284, 553, 554, 555, 556, 286] (by decide +kernel)
set_option maxRecDepth 20000 in
theorem wsL_in_r14 : ∀ w ∈ wsL_law_r14, w ∈ lw_tbl := mem_ps _ [287, 288, 289, 290, 291, 292, 293, 298, 299, 300, 294, 296, 6, 297, 557, 558, 559, 560, 301, 302, 303, 304, 305, 306] (by decide +kernel)
set_option maxRecDepth 20000 in
theorem wsL_in_r15 : ∀ w ∈ wsL_law_r15, w ∈ lw_tbl := mem_ps _ [307, 308, 309, 310, 311, 561, 562, 563, 564, 565, 566, 567, 313, 314, 315, 316, 317, 318, 319, 320, 321, 322, 323, 324] (by decide +kernel)
set_option maxRecDepth 20000 in
theorem wsL_in_r16 : ∀ w ∈ wsL_law_r16, w ∈ lw_tbl := mem_ps _ [325, 326, 327, 328, 330, 331, 332, 333, 334, 335, 336, 337, 338, 568, 569, 570, 571, 572, 574, 19, 575, 339, 340, 341] (by decide +kernel)
set_option maxRecDepth 20000 in
theorem wsL_in_r17 : ∀ w ∈ wsL_law_r17, w ∈ lw_tbl := mem_ps _ [342, 343, 344, 345, 346, 347, 348, 349, 350, 351, 352, 353, 354, 355, 357, 7, 358, 359, 360, 361, 362, 364, 365, 366] (by decide +kernel)
set_option maxRecDepth 20000 in
theorem wsL_in_r18 : ∀ w ∈ wsL_law_r18, w ∈ lw_tbl := mem_ps _ [367, 372, 373, 576, 577, 578, 579, 439, 374, 375, 376, 377, 378, 379, 380, 381, 580, 581, 582, 583, 383, 384, 385, 386] (by decide +kernel)
set_option maxRecDepth 20000 in
theorem wsL_in_r19 : ∀ w ∈ wsL_law_r19, w ∈ lw_tbl := mem_ps _ [387, 584, 585, 586, 587, 588, 590, 20, 591, 388, 389, 390, 391, 392, 393, 394, 395, 592, 593, 594, 595, 596, 598, 21] (by decide +kernel)
set_option maxRecDepth 20000 in
theorem wsL_in_r20 : ∀ w ∈ wsL_law_r20, w ∈ lw_tbl := mem_ps _ [599, 600, 602, 22, 603, 397, 398, 399, 400, 401, 402, 403, 404, 405, 406, 408, 8, 409, 604, 605, 606, 607, 411, 412] (by decide +kernel)
set_option maxRecDepth 20000 in
theorem wsL_in_r21 : ∀ w ∈ wsL_law_r21, w ∈ lw_tbl := mem_ps _ [413, 414, 608, 609, 610, 611, 612, 614, 23, 615, 616, 618, 24, 619, 415, 416, 417, 418, 620, 621, 622, 623, 419, 420] (by decide +kernel)
set_option maxRecDepth 20000 in
theorem wsL_in_r22 : ∀ w ∈ wsL_law_r22, w ∈ lw_tbl := mem_ps _ [421, 422, 423, 424, 425, 426, 427, 624, 625, 626, 627] (by decide +kernel)
set_option maxRecDepth 20000 in
theorem wsL_in_X0 : ∀ w ∈ wsX00, w ∈ lw_tbl := mem_ps _ [69, 71, 73] (by decide +kernel)
set_option maxRecDepth 20000 in
theorem wsL_in_X1 : ∀ w ∈ wsX10, w ∈ lw_tbl := mem_ps _ [85, 87, 89] (by decide +kernel)
set_option maxRecDepth 20000 in
theorem wsL_in_X2 : ∀ w ∈ wsX20, w ∈ lw_tbl := mem_ps _ [119, 121] (by decide +kernel)
set_option maxRecDepth 20000 in
theorem wsL_in_X3 : ∀ w ∈ wsX30, w ∈ lw_tbl := mem_ps _ [52, 54, 56] (by decide +kernel)
set_option maxRecDepth 20000 in
theorem wsL_in_X4 : ∀ w ∈ wsX40, w ∈ lw_tbl := mem_ps _ [106, 108] (by decide +kernel)
set_option maxRecDepth 20000 in
theorem wsL_in_X5 : ∀ w ∈ wsX50, w ∈ lw_tbl := mem_ps _ [129, 131, 133, 135, 137] (by decide +kernel)
set_option maxRecDepth 20000 in
theorem wsL_in_X6 : ∀ w ∈ wsX60, w ∈ lw_tbl := mem_ps _ [447, 449, 451, 453, 455, 457, 459, 461, 463, 465, 467, 469, 471] (by decide +kernel)
theorem wsL_law_in : ∀ w ∈ wsL_law, w ∈ lw_tbl := by
  unfold wsL_law
  exact List.forall_mem_append.mpr ⟨List.forall_mem_append.mpr ⟨List.forall_mem_append.mpr ⟨List.forall_mem_append.mpr ⟨List.forall_mem_append.mpr ⟨List.forall_mem_append.mpr ⟨List.forall_mem_append.mpr ⟨List.forall_mem_append.mpr ⟨List.forall_mem_append.mpr ⟨wsL_in_r1, List.forall_mem_append.mpr ⟨wsL_in_r2, List.forall_mem_append.mpr ⟨wsL_in_r3, List.forall_mem_append.mpr ⟨wsL_in_r4, List.forall_mem_append.mpr ⟨wsL_in_r5, List.forall_mem_append.mpr ⟨wsL_in_r6, List.forall_mem_append.mpr ⟨wsL_in_r7, List.forall_mem_append.mpr ⟨wsL_in_r8, List.forall_mem_append.mpr ⟨wsL_in_r9, List.forall_mem_append.mpr ⟨wsL_in_r10, List.forall_mem_append.mpr ⟨wsL_in_r11, List.forall_mem_append.mpr ⟨wsL_in_r12, List.forall_mem_append.mpr ⟨wsL_in_r13, List.forall_mem_append.mpr ⟨wsL_in_r14, List.forall_mem_append.mpr ⟨wsL_in_r15, List.forall_mem_append.mpr ⟨wsL_in_r16, List.forall_mem_append.mpr ⟨wsL_in_r17, List.forall_mem_append.mpr ⟨wsL_in_r18, List.forall_mem_append.mpr ⟨wsL_in_r19, List.forall_mem_append.mpr ⟨wsL_in_r20, List.forall_mem_append.mpr ⟨wsL_in_r21, wsL_in_r22⟩⟩⟩⟩⟩⟩⟩⟩⟩⟩⟩⟩⟩⟩⟩⟩⟩⟩⟩⟩⟩, wsL_in_X5⟩, wsL_in_X6⟩, wsL_in_X3⟩, wsL_in_X0⟩, wsL_in_X1⟩, wsL_in_X4⟩, wsL_in_X2⟩, fun _ h => absurd h List.not_mem_nil⟩
theorem inlX0 : ∀ w ∈ wsX00, w ∈ wsL_law := fun _ h => List.mem_append_left _ (List.mem_append_left _ (List.mem_append_left _ (List.mem_append_left _ (List.mem_append_right _ h))))
theorem inX0 : ∀ w ∈ wsX00, w ∈ lw_tbl := fun w h => wsL_law_in w (inlX0 w h)
theorem inlX1 : ∀ w ∈ wsX10, w ∈ wsL_law := fun _ h => List.mem_append_left _ (List.mem_append_left _ (List.mem_append_left _ (List.mem_append_right _ h)))
theorem inX1 : ∀ w ∈ wsX10, w ∈ lw_tbl := fun w h => wsL_law_in w (inlX1 w h)
theorem inlX2 : ∀ w ∈ wsX20, w ∈ wsL_law := fun _ h => List.mem_append_left _ (List.mem_append_right _ h)
theorem inX2 : ∀ w ∈ wsX20, w ∈ lw_tbl := fun w h => wsL_law_in w (inlX2 w h)
theorem inlX3 : ∀ w ∈ wsX30, w ∈ wsL_law := fun _ h => List.mem_append_left _ (List.mem_append_left _ (List.mem_append_left _ (List.mem_append_left _ (List.mem_append_left _ (List.mem_append_right _ h)))))
theorem inX3 : ∀ w ∈ wsX30, w ∈ lw_tbl := fun w h => wsL_law_in w (inlX3 w h)
theorem inlX4 : ∀ w ∈ wsX40, w ∈ wsL_law := fun _ h => List.mem_append_left _ (List.mem_append_left _ (List.mem_append_right _ h))
theorem inX4 : ∀ w ∈ wsX40, w ∈ lw_tbl := fun w h => wsL_law_in w (inlX4 w h)
theorem inlX5 : ∀ w ∈ wsX50, w ∈ wsL_law := fun _ h => List.mem_append_left _ (List.mem_append_left _ (List.mem_append_left _ (List.mem_append_left _ (List.mem_append_left _ (List.mem_append_left _ (List.mem_append_left _ (List.mem_append_right _ h)))))))
theorem inX5 : ∀ w ∈ wsX50, w ∈ lw_tbl := fun w h => wsL_law_in w (inlX5 w h)
theorem inlX6 : ∀ w ∈ wsX60, w ∈ wsL_law := fun _ h => List.mem_append_left _ (List.mem_append_left _ (List.mem_append_left _ (List.mem_append_left _ (List.mem_append_left _ (List.mem_append_left _ (List.mem_append_right _ h))))))
theorem inX6 : ∀ w ∈ wsX60, w ∈ lw_tbl := fun w h => wsL_law_in w (inlX6 w h)
theorem inJ6 : ∀ w ∈ wsJ60, w ∈ lw_tbl := by decide +kernel
theorem inJ9 : ∀ w ∈ wsJ90, w ∈ lw_tbl := by decide +kernel
end
section
theorem dX0_init_0 : decode cX0_init 0 = .ok (.aload_n 0, 1) := by decide +kernel
theorem dX0_init_1 : decode cX0_init 1 = .ok (.invokespecial 3, 3) := by decide +kernel
theorem dX0_init_4 : decode cX0_init 4 = .ok (.aload_n 0, 1) := by decide +kernel
theorem dX0_init_5 : decode cX0_init 5 = .ok (.bipush 16, 2) := by decide +kernel
theorem dX0_init_7 : decode cX0_init 7 = .ok (.newarray .int, 2) := by decide +kernel
theorem dX0_init_9 : decode cX0_init 9 = .ok (.putfield 9, 3) := by decide +kernel
theorem dX0_init_12 : decode cX0_init 12 = .ok (.aload_n 0, 1) := by decide +kernel
theorem dX0_init_13 : decode cX0_init 13 = .ok (.bipush 16, 2) := by decide +kernel
theorem dX0_init_15 : decode cX0_init 15 = .ok (.newarray .int, 2) := by decide +kernel
theorem dX0_init_17 : decode cX0_init 17 = .ok (.putfield 15, 3) := by decide +kernel
theorem dX0_init_20 : decode cX0_init 20 = .ok (.aload_n 0, 1) := by decide +kernel
theorem dX0_init_21 : decode cX0_init 21 = .ok (.iconst 0, 1) := by decide +kernel
theorem dX0_init_22 : decode cX0_init 22 = .ok (.putfield 18, 3) := by decide +kernel
theorem dX0_init_25 : decode cX0_init 25 = .ok (.return_, 1) := by decide +kernel
theorem dX0_size_0 : decode cX0_size 0 = .ok (.aload_n 0, 1) := by decide +kernel
theorem dX0_size_1 : decode cX0_size 1 = .ok (.getfield 18, 3) := by decide +kernel
theorem dX0_size_4 : decode cX0_size 4 = .ok (.ireturn, 1) := by decide +kernel
set_option maxRecDepth 20000 in
theorem ggX0_cutAt_X5_isBelow : GoodIn wsX0_cutAt wsX5_isBelow := goodIn_r _ [5] (by decide +kernel) (by decide +kernel)
set_option maxRecDepth 20000 in
theorem gX0_cutAt_X5_isBelow_n22 : GoodIn wsX0_cutAt (wsX5_isBelow) := ggX0_cutAt_X5_isBelow
theorem dX0_cutAt_0 : decode cX0_cutAt 0 = .ok (.iload_n 1, 1) := by decide +kernel
theorem dX0_cutAt_1 : decode cX0_cutAt 1 = .ok (.aload_n 0, 1) := by decide +kernel
theorem dX0_cutAt_2 : decode cX0_cutAt 2 = .ok (.getfield 18, 3) := by decide +kernel
theorem dX0_cutAt_5 : decode cX0_cutAt 5 = .ok (.invokestatic 22, 3) := by decide +kernel
theorem dX0_cutAt_8 : decode cX0_cutAt 8 = .ok (.ifCond .eq 12, 3) := by decide +kernel
theorem dX0_cutAt_11 : decode cX0_cutAt 11 = .ok (.aload_n 0, 1) := by decide +kernel
theorem dX0_cutAt_12 : decode cX0_cutAt 12 = .ok (.getfield 9, 3) := by decide +kernel
theorem dX0_cutAt_15 : decode cX0_cutAt 15 = .ok (.iload_n 1, 1) := by decide +kernel
theorem dX0_cutAt_16 : decode cX0_cutAt 16 = .ok (.iaload, 1) := by decide +kernel
theorem dX0_cutAt_17 : decode cX0_cutAt 17 = .ok (.goto 4, 3) := by decide +kernel
theorem dX0_cutAt_20 : decode cX0_cutAt 20 = .ok (.iconst (-1), 1) := by decide +kernel
theorem dX0_cutAt_21 : decode cX0_cutAt 21 = .ok (.ireturn, 1) := by decide +kernel
set_option maxRecDepth 20000 in
theorem ggX0_find_X3_size : GoodIn wsX0_find wsX3_size := goodIn_r _ [5, 6, 43, 44, 45] (by decide +kernel) (by decide +kernel)
set_option maxRecDepth 20000 in
theorem gX0_find_X3_size : GoodIn wsX0_find (wsV RX0 26 RX3 yX3_size wsX3_size) := goodIn_app (goodIn_of _ (by decide +kernel)) ggX0_find_X3_size
set_option maxRecDepth 20000 in
theorem ggX0_find_X0_needsFrom : GoodIn wsX0_find wsX0_needsFrom := goodIn_r _ [11, 12, 1, 2, 3, 4, 5, 6, 13, 14, 15, 10, 16, 17, 18, 19, 20, 21, 22, 23, 24, 25, 26, 27, 28, 29, 30, 31, 32, 33, 34, 35, 36, 46, 47, 48, 43, 44, 45] (by decide +kernel) (by decide +kernel)
set_option maxRecDepth 20000 in
theorem gX0_find_X0_needsFrom : GoodIn wsX0_find (wsV RX0 31 RX0 yX0_needsFrom wsX0_needsFrom) := goodIn_app (goodIn_of _ (by decide +kernel)) ggX0_find_X0_needsFrom
set_option maxRecDepth 20000 in
theorem ggX0_find_X0_collect : GoodIn wsX0_find wsX0_collect := goodIn_r _ [40, 41, 12, 42, 46, 47, 48] (by decide +kernel) (by decide +kernel)
set_option maxRecDepth 20000 in
theorem gX0_find_X0_collect : GoodIn wsX0_find (wsV RX0 35 RX0 yX0_collect wsX0_collect) := goodIn_app (goodIn_of _ (by decide +kernel)) ggX0_find_X0_collect
theorem dX0_find_0 : decode cX0_find 0 = .ok (.iconst 0, 1) := by decide +kernel
theorem dX0_find_1 : decode cX0_find 1 = .ok (.istore_n 2, 1) := by decide +kernel
theorem dX0_find_2 : decode cX0_find 2 = .ok (.sipush 1000, 3) := by decide +kernel
theorem dX0_find_5 : decode cX0_find 5 = .ok (.istore_n 3, 1) := by decide +kernel
theorem dX0_find_6 : decode cX0_find 6 = .ok (.iconst 0, 1) := by decide +kernel
theorem dX0_find_7 : decode cX0_find 7 = .ok (.istore 4, 2) := by decide +kernel
theorem dX0_find_9 : decode cX0_find 9 = .ok (.iload 4, 2) := by decide +kernel
theorem dX0_find_11 : decode cX0_find 11 = .ok (.aload_n 1, 1) := by decide +kernel
theorem dX0_find_12 : decode cX0_find 12 = .ok (.invokevirtual 26, 3) := by decide +kernel
theorem dX0_find_15 : decode cX0_find 15 = .ok (.if_icmp .ge 30, 3) := by decide +kernel
theorem dX0_find_18 : decode cX0_find 18 = .ok (.aload_n 0, 1) := by decide +kernel
theorem dX0_find_19 : decode cX0_find 19 = .ok (.aload_n 1, 1) := by decide +kernel
theorem dX0_find_20 : decode cX0_find 20 = .ok (.iload 4, 2) := by decide +kernel
theorem dX0_find_22 : decode cX0_find 22 = .ok (.invokevirtual 31, 3) := by decide +kernel
theorem dX0_find_25 : decode cX0_find 25 = .ok (.istore 5, 2) := by decide +kernel
theorem dX0_find_27 : decode cX0_find 27 = .ok (.iload 5, 2) := by decide +kernel
theorem dX0_find_29 : decode cX0_find 29 = .ok (.iload_n 3, 1) := by decide +kernel
theorem dX0_find_30 : decode cX0_find 30 = .ok (.if_icmp .ge 9, 3) := by decide +kernel
theorem dX0_find_33 : decode cX0_find 33 = .ok (.iload 5, 2) := by decide +kernel
theorem dX0_find_35 : decode cX0_find 35 = .ok (.istore_n 3, 1) := by decide +kernel
theorem dX0_find_36 : decode cX0_find 36 = .ok (.iload 4, 2) := by decide +kernel
theorem dX0_find_38 : decode cX0_find 38 = .ok (.istore_n 2, 1) := by decide +kernel
theorem dX0_find_39 : decode cX0_find 39 = .ok (.iinc 4 1, 3) := by decide +kernel
theorem dX0_find_42 : decode cX0_find 42 = .ok (.goto (-33), 3) := by decide +kernel
theorem dX0_find_45 : decode cX0_find 45 = .ok (.aload_n 0, 1) := by decide +kernel
theorem dX0_find_46 : decode cX0_find 46 = .ok (.aload_n 1, 1) := by decide +kernel
theorem dX0_find_47 : decode cX0_find 47 = .ok (.iload_n 2, 1) := by decide +kernel
theorem dX0_find_48 : decode cX0_find 48 = .ok (.invokevirtual 31, 3) := by decide +kernel
theorem dX0_find_51 : decode cX0_find 51 = .ok (.pop, 1) := by decide +kernel
theorem dX0_find_52 : decode cX0_find 52 = .ok (.aload_n 0, 1) := by decide +kernel
theorem dX0_find_53 : decode cX0_find 53 = .ok (.aload_n 1, 1) := by decide +kernel
theorem dX0_find_54 : decode cX0_find 54 = .ok (.invokevirtual 26, 3) := by decide +kernel
theorem dX0_find_57 : decode cX0_find 57 = .ok (.iload_n 2, 1) := by decide +kernel
theorem dX0_find_58 : decode cX0_find 58 = .ok (.invokevirtual 35, 3) := by decide +kernel
theorem dX0_find_61 : decode cX0_find 61 = .ok (.return_, 1) := by decide +kernel
set_option maxRecDepth 20000 in
theorem ggX0_needsFrom_X3_size : GoodIn wsX0_needsFrom wsX3_size := goodIn_r _ [6, 7, 36, 37, 38] (by decide +kernel) (by decide +kernel)
set_option maxRecDepth 20000 in
theorem gX0_needsFrom_X3_size : GoodIn wsX0_needsFrom (wsV RX0 26 RX3 yX3_size wsX3_size) := goodIn_app (goodIn_of _ (by decide +kernel)) ggX0_needsFrom_X3_size
set_option maxRecDepth 20000 in
theorem ggX0_needsFrom_X0_need : GoodIn wsX0_needsFrom wsX0_need := goodIn_r _ [12, 1, 13, 14, 15, 16, 2, 3, 4, 5, 6, 7, 17, 18, 19, 20, 21, 22, 23, 24, 25, 26, 27, 28, 29, 30, 31, 32, 33, 34, 35, 36, 37, 38] (by decide +kernel) (by decide +kernel)
set_option maxRecDepth 20000 in
theorem gX0_needsFrom_X0_need : GoodIn wsX0_needsFrom (wsV RX0 39 RX0 yX0_need wsX0_need) := goodIn_app (goodIn_of _ (by decide +kernel)) ggX0_needsFrom_X0_need
theorem dX0_needsFrom_0 : decode cX0_needsFrom 0 = .ok (.aload_n 1, 1) := by decide +kernel
theorem dX0_needsFrom_1 : decode cX0_needsFrom 1 = .ok (.invokevirtual 26, 3) := by decide +kernel
theorem dX0_needsFrom_4 : decode cX0_needsFrom 4 = .ok (.iconst 1, 1) := by decide +kernel
theorem dX0_needsFrom_5 : decode cX0_needsFrom 5 = .ok (.isub, 1) := by decide +kernel
theorem dX0_needsFrom_6 : decode cX0_needsFrom 6 = .ok (.istore_n 3, 1) := by decide +kernel
theorem dX0_needsFrom_7 : decode cX0_needsFrom 7 = .ok (.iload_n 3, 1) := by decide +kernel
theorem dX0_needsFrom_8 : decode cX0_needsFrom 8 = .ok (.iload_n 2, 1) := by decide +kernel
theorem dX0_needsFrom_9 : decode cX0_needsFrom 9 = .ok (.if_icmp .lt 22, 3) := by decide +kernel
theorem dX0_needsFrom_12 : decode cX0_needsFrom 12 = .ok (.aload_n 0, 1) := by decide +kernel
theorem dX0_needsFrom_13 : decode cX0_needsFrom 13 = .ok (.getfield 15, 3) := by decide +kernel
theorem dX0_needsFrom_16 : decode cX0_needsFrom 16 = .ok (.iload_n 3, 1) := by decide +kernel
theorem dX0_needsFrom_17 : decode cX0_needsFrom 17 = .ok (.aload_n 0, 1) := by decide +kernel
theorem dX0_needsFrom_18 : decode cX0_needsFrom 18 = .ok (.aload_n 1, 1) := by decide +kernel
theorem dX0_needsFrom_19 : decode cX0_needsFrom 19 = .ok (.iload_n 2, 1) := by decide +kernel
theorem dX0_needsFrom_20 : decode cX0_needsFrom 20 = .ok (.iload_n 3, 1) := by decide +kernel
theorem dX0_needsFrom_21 : decode cX0_needsFrom 21 = .ok (.invokevirtual 39, 3) := by decide +kernel
theorem dX0_needsFrom_24 : decode cX0_needsFrom 24 = .ok (.iastore, 1) := by decide +kernel
theorem dX0_needsFrom_25 : decode cX0_needsFrom 25 = .ok (.iinc 3 (-1), 3) := by decide +kernel
theorem dX0_needsFrom_28 : decode cX0_needsFrom 28 = .ok (.goto (-21), 3) := by decide +kernel
theorem dX0_needsFrom_31 : decode cX0_needsFrom 31 = .ok (.aload_n 1, 1) := by decide +kernel
theorem dX0_needsFrom_32 : decode cX0_needsFrom 32 = .ok (.invokevirtual 26, 3) := by decide +kernel
theorem dX0_needsFrom_35 : decode cX0_needsFrom 35 = .ok (.ifCond .ne 9, 3) := by decide +kernel
theorem dX0_needsFrom_38 : decode cX0_needsFrom 38 = .ok (.sipush 1000, 3) := by decide +kernel
theorem dX0_needsFrom_41 : decode cX0_needsFrom 41 = .ok (.goto 9, 3) := by decide +kernel
theorem dX0_needsFrom_44 : decode cX0_needsFrom 44 = .ok (.aload_n 0, 1) := by decide +kernel
theorem dX0_needsFrom_45 : decode cX0_needsFrom 45 = .ok (.getfield 15, 3) := by decide +kernel
theorem dX0_needsFrom_48 : decode cX0_needsFrom 48 = .ok (.iload_n 2, 1) := by decide +kernel
theorem dX0_needsFrom_49 : decode cX0_needsFrom 49 = .ok (.iaload, 1) := by decide +kernel
theorem dX0_needsFrom_50 : decode cX0_needsFrom 50 = .ok (.ireturn, 1) := by decide +kernel
set_option maxRecDepth 20000 in
theorem ggX0_need_X3_size : GoodIn wsX0_need wsX3_size := goodIn_r _ [10, 11, 31, 32, 33] (by decide +kernel) (by decide +kernel)
set_option maxRecDepth 20000 in
theorem gX0_need_X3_size : GoodIn wsX0_need (wsV RX0 26 RX3 yX3_size wsX3_size) := goodIn_app (goodIn_of _ (by decide +kernel)) ggX0_need_X3_size
set_option maxRecDepth 20000 in
theorem ggX0_need_X3_endsOf : GoodIn wsX0_need wsX3_endsOf := goodIn_r _ [15, 11, 16, 17, 18, 19, 31, 32, 33] (by decide +kernel) (by decide +kernel)
set_option maxRecDepth 20000 in
theorem gX0_need_X3_endsOf : GoodIn wsX0_need (wsV RX0 43 RX3 yX3_endsOf wsX3_endsOf) := goodIn_app (goodIn_of _ (by decide +kernel)) ggX0_need_X3_endsOf
set_option maxRecDepth 20000 in
theorem ggX0_need_X5_cylindersOf : GoodIn wsX0_need wsX5_cylindersOf := goodIn_r _ [21, 22, 23, 18, 24, 25, 26, 27] (by decide +kernel) (by decide +kernel)
set_option maxRecDepth 20000 in
theorem gX0_need_X5_cylindersOf_n47 : GoodIn wsX0_need (wsX5_cylindersOf) := ggX0_need_X5_cylindersOf
theorem dX0_need_0 : decode cX0_need 0 = .ok (.aload_n 1, 1) := by decide +kernel
theorem dX0_need_1 : decode cX0_need 1 = .ok (.invokevirtual 26, 3) := by decide +kernel
theorem dX0_need_4 : decode cX0_need 4 = .ok (.istore 4, 2) := by decide +kernel
theorem dX0_need_6 : decode cX0_need 6 = .ok (.sipush 1000, 3) := by decide +kernel
theorem dX0_need_9 : decode cX0_need 9 = .ok (.istore 5, 2) := by decide +kernel
theorem dX0_need_11 : decode cX0_need 11 = .ok (.iconst 0, 1) := by decide +kernel
theorem dX0_need_12 : decode cX0_need 12 = .ok (.istore 6, 2) := by decide +kernel
theorem dX0_need_14 : decode cX0_need 14 = .ok (.iload_n 3, 1) := by decide +kernel
theorem dX0_need_15 : decode cX0_need 15 = .ok (.istore 7, 2) := by decide +kernel
theorem dX0_need_17 : decode cX0_need 17 = .ok (.iload 7, 2) := by decide +kernel
theorem dX0_need_19 : decode cX0_need 19 = .ok (.iload 4, 2) := by decide +kernel
theorem dX0_need_21 : decode cX0_need 21 = .ok (.iload_n 2, 1) := by decide +kernel
theorem dX0_need_22 : decode cX0_need 22 = .ok (.iadd, 1) := by decide +kernel
theorem dX0_need_23 : decode cX0_need 23 = .ok (.if_icmp .ge 80, 3) := by decide +kernel
theorem dX0_need_26 : decode cX0_need 26 = .ok (.aload_n 1, 1) := by decide +kernel
theorem dX0_need_27 : decode cX0_need 27 = .ok (.iload 7, 2) := by decide +kernel
theorem dX0_need_29 : decode cX0_need 29 = .ok (.iload 4, 2) := by decide +kernel
theorem dX0_need_31 : decode cX0_need 31 = .ok (.if_icmp .ge 8, 3) := by decide +kernel
theorem dX0_need_34 : decode cX0_need 34 = .ok (.iload 7, 2) := by decide +kernel
theorem dX0_need_36 : decode cX0_need 36 = .ok (.goto 8, 3) := by decide +kernel
theorem dX0_need_39 : decode cX0_need 39 = .ok (.iload 7, 2) := by decide +kernel
theorem dX0_need_41 : decode cX0_need 41 = .ok (.iload 4, 2) := by decide +kernel
theorem dX0_need_43 : decode cX0_need 43 = .ok (.isub, 1) := by decide +kernel
theorem dX0_need_44 : decode cX0_need 44 = .ok (.invokevirtual 43, 3) := by decide +kernel
theorem dX0_need_47 : decode cX0_need 47 = .ok (.invokestatic 47, 3) := by decide +kernel
theorem dX0_need_50 : decode cX0_need 50 = .ok (.istore 8, 2) := by decide +kernel
theorem dX0_need_52 : decode cX0_need 52 = .ok (.iload 6, 2) := by decide +kernel
theorem dX0_need_54 : decode cX0_need 54 = .ok (.iload 8, 2) := by decide +kernel
theorem dX0_need_56 : decode cX0_need 56 = .ok (.iand, 1) := by decide +kernel
theorem dX0_need_57 : decode cX0_need 57 = .ok (.ifCond .eq 6, 3) := by decide +kernel
theorem dX0_need_60 : decode cX0_need 60 = .ok (.iload 5, 2) := by decide +kernel
theorem dX0_need_62 : decode cX0_need 62 = .ok (.ireturn, 1) := by decide +kernel
theorem dX0_need_63 : decode cX0_need 63 = .ok (.iload 6, 2) := by decide +kernel
theorem dX0_need_65 : decode cX0_need 65 = .ok (.iload 8, 2) := by decide +kernel
theorem dX0_need_67 : decode cX0_need 67 = .ok (.ior, 1) := by decide +kernel
theorem dX0_need_68 : decode cX0_need 68 = .ok (.istore 6, 2) := by decide +kernel
theorem dX0_need_70 : decode cX0_need 70 = .ok (.iload 7, 2) := by decide +kernel
theorem dX0_need_72 : decode cX0_need 72 = .ok (.iconst 1, 1) := by decide +kernel
theorem dX0_need_73 : decode cX0_need 73 = .ok (.iadd, 1) := by decide +kernel
theorem dX0_need_74 : decode cX0_need 74 = .ok (.iload 4, 2) := by decide +kernel
theorem dX0_need_76 : decode cX0_need 76 = .ok (.if_icmp .ge 21, 3) := by decide +kernel
theorem dX0_need_79 : decode cX0_need 79 = .ok (.iload 5, 2) := by decide +kernel
theorem dX0_need_81 : decode cX0_need 81 = .ok (.aload_n 0, 1) := by decide +kernel
theorem dX0_need_82 : decode cX0_need 82 = .ok (.getfield 15, 3) := by decide +kernel
theorem dX0_need_85 : decode cX0_need 85 = .ok (.iload 7, 2) := by decide +kernel
theorem dX0_need_87 : decode cX0_need 87 = .ok (.iconst 1, 1) := by decide +kernel
theorem dX0_need_88 : decode cX0_need 88 = .ok (.iadd, 1) := by decide +kernel
theorem dX0_need_89 : decode cX0_need 89 = .ok (.iaload, 1) := by decide +kernel
theorem dX0_need_90 : decode cX0_need 90 = .ok (.iconst 1, 1) := by decide +kernel
theorem dX0_need_91 : decode cX0_need 91 = .ok (.iadd, 1) := by decide +kernel
theorem dX0_need_92 : decode cX0_need 92 = .ok (.invokestatic 50, 3) := by decide +kernel
theorem dX0_need_95 : decode cX0_need 95 = .ok (.istore 5, 2) := by decide +kernel
theorem dX0_need_97 : decode cX0_need 97 = .ok (.iinc 7 1, 3) := by decide +kernel
theorem dX0_need_100 : decode cX0_need 100 = .ok (.goto (-83), 3) := by decide +kernel
theorem dX0_need_103 : decode cX0_need 103 = .ok (.iconst 1, 1) := by decide +kernel
theorem dX0_need_104 : decode cX0_need 104 = .ok (.ireturn, 1) := by decide +kernel
theorem dX0_collect_0 : decode cX0_collect 0 = .ok (.aload_n 0, 1) := by decide +kernel
theorem dX0_collect_1 : decode cX0_collect 1 = .ok (.iconst 0, 1) := by decide +kernel
theorem dX0_collect_2 : decode cX0_collect 2 = .ok (.putfield 18, 3) := by decide +kernel
theorem dX0_collect_5 : decode cX0_collect 5 = .ok (.sipush 1000, 3) := by decide +kernel
theorem dX0_collect_8 : decode cX0_collect 8 = .ok (.istore_n 3, 1) := by decide +kernel
theorem dX0_collect_9 : decode cX0_collect 9 = .ok (.iload_n 2, 1) := by decide +kernel
theorem dX0_collect_10 : decode cX0_collect 10 = .ok (.istore 4, 2) := by decide +kernel
theorem dX0_collect_12 : decode cX0_collect 12 = .ok (.iload 4, 2) := by decide +kernel
theorem dX0_collect_14 : decode cX0_collect 14 = .ok (.iload_n 1, 1) := by decide +kernel
theorem dX0_collect_15 : decode cX0_collect 15 = .ok (.if_icmp .ge 57, 3) := by decide +kernel
theorem dX0_collect_18 : decode cX0_collect 18 = .ok (.iload 4, 2) := by decide +kernel
theorem dX0_collect_20 : decode cX0_collect 20 = .ok (.iload_n 2, 1) := by decide +kernel
theorem dX0_collect_21 : decode cX0_collect 21 = .ok (.if_icmp .eq 16, 3) := by decide +kernel
theorem dX0_collect_24 : decode cX0_collect 24 = .ok (.aload_n 0, 1) := by decide +kernel
theorem dX0_collect_25 : decode cX0_collect 25 = .ok (.getfield 15, 3) := by decide +kernel
theorem dX0_collect_28 : decode cX0_collect 28 = .ok (.iload 4, 2) := by decide +kernel
theorem dX0_collect_30 : decode cX0_collect 30 = .ok (.iaload, 1) := by decide +kernel
theorem dX0_collect_31 : decode cX0_collect 31 = .ok (.iload_n 3, 1) := by decide +kernel
theorem dX0_collect_32 : decode cX0_collect 32 = .ok (.iconst 1, 1) := by decide +kernel
theorem dX0_collect_33 : decode cX0_collect 33 = .ok (.isub, 1) := by decide +kernel
theorem dX0_collect_34 : decode cX0_collect 34 = .ok (.if_icmp .ne 32, 3) := by decide +kernel
theorem dX0_collect_37 : decode cX0_collect 37 = .ok (.aload_n 0, 1) := by decide +kernel
theorem dX0_collect_38 : decode cX0_collect 38 = .ok (.getfield 9, 3) := by decide +kernel
theorem dX0_collect_41 : decode cX0_collect 41 = .ok (.aload_n 0, 1) := by decide +kernel
theorem dX0_collect_42 : decode cX0_collect 42 = .ok (.getfield 18, 3) := by decide +kernel
theorem dX0_collect_45 : decode cX0_collect 45 = .ok (.iload 4, 2) := by decide +kernel
theorem dX0_collect_47 : decode cX0_collect 47 = .ok (.iastore, 1) := by decide +kernel
theorem dX0_collect_48 : decode cX0_collect 48 = .ok (.aload_n 0, 1) := by decide +kernel
theorem dX0_collect_49 : decode cX0_collect 49 = .ok (.dup, 1) := by decide +kernel
theorem dX0_collect_50 : decode cX0_collect 50 = .ok (.getfield 18, 3) := by decide +kernel
theorem dX0_collect_53 : decode cX0_collect 53 = .ok (.iconst 1, 1) := by decide +kernel
theorem dX0_collect_54 : decode cX0_collect 54 = .ok (.iadd, 1) := by decide +kernel
theorem dX0_collect_55 : decode cX0_collect 55 = .ok (.putfield 18, 3) := by decide +kernel
theorem dX0_collect_58 : decode cX0_collect 58 = .ok (.aload_n 0, 1) := by decide +kernel
theorem dX0_collect_59 : decode cX0_collect 59 = .ok (.getfield 15, 3) := by decide +kernel
theorem dX0_collect_62 : decode cX0_collect 62 = .ok (.iload 4, 2) := by decide +kernel
theorem dX0_collect_64 : decode cX0_collect 64 = .ok (.iaload, 1) := by decide +kernel
theorem dX0_collect_65 : decode cX0_collect 65 = .ok (.istore_n 3, 1) := by decide +kernel
theorem dX0_collect_66 : decode cX0_collect 66 = .ok (.iinc 4 1, 3) := by decide +kernel
theorem dX0_collect_69 : decode cX0_collect 69 = .ok (.goto (-57), 3) := by decide +kernel
theorem dX0_collect_72 : decode cX0_collect 72 = .ok (.return_, 1) := by decide +kernel
theorem dX0_groupOf_0 : decode cX0_groupOf 0 = .ok (.iconst 0, 1) := by decide +kernel
theorem dX0_groupOf_1 : decode cX0_groupOf 1 = .ok (.istore_n 2, 1) := by decide +kernel
theorem dX0_groupOf_2 : decode cX0_groupOf 2 = .ok (.iconst 0, 1) := by decide +kernel
theorem dX0_groupOf_3 : decode cX0_groupOf 3 = .ok (.istore_n 3, 1) := by decide +kernel
theorem dX0_groupOf_4 : decode cX0_groupOf 4 = .ok (.iload_n 3, 1) := by decide +kernel
theorem dX0_groupOf_5 : decode cX0_groupOf 5 = .ok (.aload_n 0, 1) := by decide +kernel
theorem dX0_groupOf_6 : decode cX0_groupOf 6 = .ok (.getfield 18, 3) := by decide +kernel
theorem dX0_groupOf_9 : decode cX0_groupOf 9 = .ok (.if_icmp .ge 22, 3) := by decide +kernel
theorem dX0_groupOf_12 : decode cX0_groupOf 12 = .ok (.aload_n 0, 1) := by decide +kernel
theorem dX0_groupOf_13 : decode cX0_groupOf 13 = .ok (.getfield 9, 3) := by decide +kernel
theorem dX0_groupOf_16 : decode cX0_groupOf 16 = .ok (.iload_n 3, 1) := by decide +kernel
theorem dX0_groupOf_17 : decode cX0_groupOf 17 = .ok (.iaload, 1) := by decide +kernel
theorem dX0_groupOf_18 : decode cX0_groupOf 18 = .ok (.iload_n 1, 1) := by decide +kernel
theorem dX0_groupOf_19 : decode cX0_groupOf 19 = .ok (.if_icmp .gt 6, 3) := by decide +kernel
theorem dX0_groupOf_22 : decode cX0_groupOf 22 = .ok (.iinc 2 1, 3) := by decide +kernel
theorem dX0_groupOf_25 : decode cX0_groupOf 25 = .ok (.iinc 3 1, 3) := by decide +kernel
theorem dX0_groupOf_28 : decode cX0_groupOf 28 = .ok (.goto (-24), 3) := by decide +kernel
theorem dX0_groupOf_31 : decode cX0_groupOf 31 = .ok (.iload_n 2, 1) := by decide +kernel
theorem dX0_groupOf_32 : decode cX0_groupOf 32 = .ok (.ifCond .ne 12, 3) := by decide +kernel
theorem dX0_groupOf_35 : decode cX0_groupOf 35 = .ok (.aload_n 0, 1) := by decide +kernel
theorem dX0_groupOf_36 : decode cX0_groupOf 36 = .ok (.getfield 18, 3) := by decide +kernel
theorem dX0_groupOf_39 : decode cX0_groupOf 39 = .ok (.iconst 1, 1) := by decide +kernel
theorem dX0_groupOf_40 : decode cX0_groupOf 40 = .ok (.isub, 1) := by decide +kernel
theorem dX0_groupOf_41 : decode cX0_groupOf 41 = .ok (.goto 6, 3) := by decide +kernel
theorem dX0_groupOf_44 : decode cX0_groupOf 44 = .ok (.iload_n 2, 1) := by decide +kernel
theorem dX0_groupOf_45 : decode cX0_groupOf 45 = .ok (.iconst 1, 1) := by decide +kernel
theorem dX0_groupOf_46 : decode cX0_groupOf 46 = .ok (.isub, 1) := by decide +kernel
theorem dX0_groupOf_47 : decode cX0_groupOf 47 = .ok (.ireturn, 1) := by decide +kernel
theorem dX0_isFirst_0 : decode cX0_isFirst 0 = .ok (.iconst 0, 1) := by decide +kernel
theorem dX0_isFirst_1 : decode cX0_isFirst 1 = .ok (.istore_n 2, 1) := by decide +kernel
theorem dX0_isFirst_2 : decode cX0_isFirst 2 = .ok (.iload_n 2, 1) := by decide +kernel
theorem dX0_isFirst_3 : decode cX0_isFirst 3 = .ok (.aload_n 0, 1) := by decide +kernel
theorem dX0_isFirst_4 : decode cX0_isFirst 4 = .ok (.getfield 18, 3) := by decide +kernel
theorem dX0_isFirst_7 : decode cX0_isFirst 7 = .ok (.if_icmp .ge 21, 3) := by decide +kernel
theorem dX0_isFirst_10 : decode cX0_isFirst 10 = .ok (.aload_n 0, 1) := by decide +kernel
theorem dX0_isFirst_11 : decode cX0_isFirst 11 = .ok (.getfield 9, 3) := by decide +kernel
theorem dX0_isFirst_14 : decode cX0_isFirst 14 = .ok (.iload_n 2, 1) := by decide +kernel
theorem dX0_isFirst_15 : decode cX0_isFirst 15 = .ok (.iaload, 1) := by decide +kernel
theorem dX0_isFirst_16 : decode cX0_isFirst 16 = .ok (.iload_n 1, 1) := by decide +kernel
theorem dX0_isFirst_17 : decode cX0_isFirst 17 = .ok (.if_icmp .ne 5, 3) := by decide +kernel
theorem dX0_isFirst_20 : decode cX0_isFirst 20 = .ok (.iconst 1, 1) := by decide +kernel
theorem dX0_isFirst_21 : decode cX0_isFirst 21 = .ok (.ireturn, 1) := by decide +kernel
theorem dX0_isFirst_22 : decode cX0_isFirst 22 = .ok (.iinc 2 1, 3) := by decide +kernel
theorem dX0_isFirst_25 : decode cX0_isFirst 25 = .ok (.goto (-23), 3) := by decide +kernel
theorem dX0_isFirst_28 : decode cX0_isFirst 28 = .ok (.iconst 0, 1) := by decide +kernel
theorem dX0_isFirst_29 : decode cX0_isFirst 29 = .ok (.ireturn, 1) := by decide +kernel
theorem dX1_init_0 : decode cX1_init 0 = .ok (.aload_n 0, 1) := by decide +kernel
theorem dX1_init_1 : decode cX1_init 1 = .ok (.invokespecial 3, 3) := by decide +kernel
theorem dX1_init_4 : decode cX1_init 4 = .ok (.aload_n 0, 1) := by decide +kernel
theorem dX1_init_5 : decode cX1_init 5 = .ok (.bipush 12, 2) := by decide +kernel
theorem dX1_init_7 : decode cX1_init 7 = .ok (.newarray .int, 2) := by decide +kernel
theorem dX1_init_9 : decode cX1_init 9 = .ok (.putfield 9, 3) := by decide +kernel
theorem dX1_init_12 : decode cX1_init 12 = .ok (.aload_n 0, 1) := by decide +kernel
theorem dX1_init_13 : decode cX1_init 13 = .ok (.bipush 12, 2) := by decide +kernel
theorem dX1_init_15 : decode cX1_init 15 = .ok (.newarray .int, 2) := by decide +kernel
theorem dX1_init_17 : decode cX1_init 17 = .ok (.putfield 15, 3) := by decide +kernel
theorem dX1_init_20 : decode cX1_init 20 = .ok (.aload_n 0, 1) := by decide +kernel
theorem dX1_init_21 : decode cX1_init 21 = .ok (.iconst 0, 1) := by decide +kernel
theorem dX1_init_22 : decode cX1_init 22 = .ok (.putfield 18, 3) := by decide +kernel
theorem dX1_init_25 : decode cX1_init 25 = .ok (.return_, 1) := by decide +kernel
theorem dX1_size_0 : decode cX1_size 0 = .ok (.aload_n 0, 1) := by decide +kernel
theorem dX1_size_1 : decode cX1_size 1 = .ok (.getfield 18, 3) := by decide +kernel
theorem dX1_size_4 : decode cX1_size 4 = .ok (.ireturn, 1) := by decide +kernel
theorem dX1_add_0 : decode cX1_add 0 = .ok (.aload_n 0, 1) := by decide +kernel
theorem dX1_add_1 : decode cX1_add 1 = .ok (.getfield 18, 3) := by decide +kernel
theorem dX1_add_4 : decode cX1_add 4 = .ok (.bipush 12, 2) := by decide +kernel
theorem dX1_add_6 : decode cX1_add 6 = .ok (.if_icmp .lt 4, 3) := by decide +kernel
theorem dX1_add_9 : decode cX1_add 9 = .ok (.return_, 1) := by decide +kernel
theorem dX1_add_10 : decode cX1_add 10 = .ok (.aload_n 0, 1) := by decide +kernel
theorem dX1_add_11 : decode cX1_add 11 = .ok (.getfield 9, 3) := by decide +kernel
theorem dX1_add_14 : decode cX1_add 14 = .ok (.aload_n 0, 1) := by decide +kernel
theorem dX1_add_15 : decode cX1_add 15 = .ok (.getfield 18, 3) := by decide +kernel
theorem dX1_add_18 : decode cX1_add 18 = .ok (.iload_n 1, 1) := by decide +kernel
theorem dX1_add_19 : decode cX1_add 19 = .ok (.iastore, 1) := by decide +kernel
theorem dX1_add_20 : decode cX1_add 20 = .ok (.aload_n 0, 1) := by decide +kernel
theorem dX1_add_21 : decode cX1_add 21 = .ok (.getfield 15, 3) := by decide +kernel
theorem dX1_add_24 : decode cX1_add 24 = .ok (.aload_n 0, 1) := by decide +kernel
theorem dX1_add_25 : decode cX1_add 25 = .ok (.getfield 18, 3) := by decide +kernel
theorem dX1_add_28 : decode cX1_add 28 = .ok (.iload_n 2, 1) := by decide +kernel
theorem dX1_add_29 : decode cX1_add 29 = .ok (.iastore, 1) := by decide +kernel
theorem dX1_add_30 : decode cX1_add 30 = .ok (.aload_n 0, 1) := by decide +kernel
theorem dX1_add_31 : decode cX1_add 31 = .ok (.dup, 1) := by decide +kernel
theorem dX1_add_32 : decode cX1_add 32 = .ok (.getfield 18, 3) := by decide +kernel
theorem dX1_add_35 : decode cX1_add 35 = .ok (.iconst 1, 1) := by decide +kernel
theorem dX1_add_36 : decode cX1_add 36 = .ok (.iadd, 1) := by decide +kernel
theorem dX1_add_37 : decode cX1_add 37 = .ok (.putfield 18, 3) := by decide +kernel
theorem dX1_add_40 : decode cX1_add 40 = .ok (.return_, 1) := by decide +kernel
set_option maxRecDepth 20000 in
theorem ggX1_remove_X5_isBelow : GoodIn wsX1_remove wsX5_isBelow := goodIn_r _ [6] (by decide +kernel) (by decide +kernel)
set_option maxRecDepth 20000 in
theorem gX1_remove_X5_isBelow_n22 : GoodIn wsX1_remove (wsX5_isBelow) := ggX1_remove_X5_isBelow
theorem dX1_remove_0 : decode cX1_remove 0 = .ok (.iload_n 1, 1) := by decide +kernel
theorem dX1_remove_1 : decode cX1_remove 1 = .ok (.aload_n 0, 1) := by decide +kernel
theorem dX1_remove_2 : decode cX1_remove 2 = .ok (.getfield 18, 3) := by decide +kernel
theorem dX1_remove_5 : decode cX1_remove 5 = .ok (.invokestatic 22, 3) := by decide +kernel
theorem dX1_remove_8 : decode cX1_remove 8 = .ok (.ifCond .ne 4, 3) := by decide +kernel
theorem dX1_remove_11 : decode cX1_remove 11 = .ok (.return_, 1) := by decide +kernel
theorem dX1_remove_12 : decode cX1_remove 12 = .ok (.iload_n 1, 1) := by decide +kernel
theorem dX1_remove_13 : decode cX1_remove 13 = .ok (.istore_n 2, 1) := by decide +kernel
theorem dX1_remove_14 : decode cX1_remove 14 = .ok (.iload_n 2, 1) := by decide +kernel
theorem dX1_remove_15 : decode cX1_remove 15 = .ok (.aload_n 0, 1) := by decide +kernel
theorem dX1_remove_16 : decode cX1_remove 16 = .ok (.getfield 18, 3) := by decide +kernel
theorem dX1_remove_19 : decode cX1_remove 19 = .ok (.iconst 1, 1) := by decide +kernel
theorem dX1_remove_20 : decode cX1_remove 20 = .ok (.isub, 1) := by decide +kernel
theorem dX1_remove_21 : decode cX1_remove 21 = .ok (.if_icmp .ge 37, 3) := by decide +kernel
theorem dX1_remove_24 : decode cX1_remove 24 = .ok (.aload_n 0, 1) := by decide +kernel
theorem dX1_remove_25 : decode cX1_remove 25 = .ok (.getfield 9, 3) := by decide +kernel
theorem dX1_remove_28 : decode cX1_remove 28 = .ok (.iload_n 2, 1) := by decide +kernel
theorem dX1_remove_29 : decode cX1_remove 29 = .ok (.aload_n 0, 1) := by decide +kernel
theorem dX1_remove_30 : decode cX1_remove 30 = .ok (.getfield 9, 3) := by decide +kernel
theorem dX1_remove_33 : decode cX1_remove 33 = .ok (.iload_n 2, 1) := by decide +kernel
theorem dX1_remove_34 : decode cX1_remove 34 = .ok (.iconst 1, 1) := by decide +kernel
theorem dX1_remove_35 : decode cX1_remove 35 = .ok (.iadd, 1) := by decide +kernel
theorem dX1_remove_36 : decode cX1_remove 36 = .ok (.iaload, 1) := by decide +kernel
theorem dX1_remove_37 : decode cX1_remove 37 = .ok (.iastore, 1) := by decide +kernel
theorem dX1_remove_38 : decode cX1_remove 38 = .ok (.aload_n 0, 1) := by decide +kernel
theorem dX1_remove_39 : decode cX1_remove 39 = .ok (.getfield 15, 3) := by decide +kernel
theorem dX1_remove_42 : decode cX1_remove 42 = .ok (.iload_n 2, 1) := by decide +kernel
theorem dX1_remove_43 : decode cX1_remove 43 = .ok (.aload_n 0, 1) := by decide +kernel
theorem dX1_remove_44 : decode cX1_remove 44 = .ok (.getfield 15, 3) := by decide +kernel
theorem dX1_remove_47 : decode cX1_remove 47 = .ok (.iload_n 2, 1) := by decide +kernel
theorem dX1_remove_48 : decode cX1_remove 48 = .ok (.iconst 1, 1) := by decide +kernel
theorem dX1_remove_49 : decode cX1_remove 49 = .ok (.iadd, 1) := by decide +kernel
theorem dX1_remove_50 : decode cX1_remove 50 = .ok (.iaload, 1) := by decide +kernel
theorem dX1_remove_51 : decode cX1_remove 51 = .ok (.iastore, 1) := by decide +kernel
theorem dX1_remove_52 : decode cX1_remove 52 = .ok (.iinc 2 1, 3) := by decide +kernel
theorem dX1_remove_55 : decode cX1_remove 55 = .ok (.goto (-41), 3) := by decide +kernel
theorem dX1_remove_58 : decode cX1_remove 58 = .ok (.aload_n 0, 1) := by decide +kernel
theorem dX1_remove_59 : decode cX1_remove 59 = .ok (.dup, 1) := by decide +kernel
theorem dX1_remove_60 : decode cX1_remove 60 = .ok (.getfield 18, 3) := by decide +kernel
theorem dX1_remove_63 : decode cX1_remove 63 = .ok (.iconst 1, 1) := by decide +kernel
theorem dX1_remove_64 : decode cX1_remove 64 = .ok (.isub, 1) := by decide +kernel
theorem dX1_remove_65 : decode cX1_remove 65 = .ok (.putfield 18, 3) := by decide +kernel
theorem dX1_remove_68 : decode cX1_remove 68 = .ok (.return_, 1) := by decide +kernel
set_option maxRecDepth 20000 in
theorem ggX1_allow_X5_sensorsOn : GoodIn wsX1_allow wsX5_sensorsOn := goodIn_r _ [6, 7, 8, 5, 9] (by decide +kernel) (by decide +kernel)
set_option maxRecDepth 20000 in
theorem gX1_allow_X5_sensorsOn_n26 : GoodIn wsX1_allow (wsX5_sensorsOn) := ggX1_allow_X5_sensorsOn
set_option maxRecDepth 20000 in
theorem ggX1_allow_X5_cylindersOf : GoodIn wsX1_allow wsX5_cylindersOf := goodIn_r _ [11, 12, 13, 5, 14, 15, 16, 17] (by decide +kernel) (by decide +kernel)
set_option maxRecDepth 20000 in
theorem gX1_allow_X5_cylindersOf_n30 : GoodIn wsX1_allow (wsX5_cylindersOf) := ggX1_allow_X5_cylindersOf
set_option maxRecDepth 20000 in
theorem ggX1_allow_X5_has : GoodIn wsX1_allow wsX5_has := goodIn_r _ [19] (by decide +kernel) (by decide +kernel)
set_option maxRecDepth 20000 in
theorem gX1_allow_X5_has_n33 : GoodIn wsX1_allow (wsX5_has) := ggX1_allow_X5_has
set_option maxRecDepth 20000 in
theorem ggX1_allow_X5_cylinderOf : GoodIn wsX1_allow wsX5_cylinderOf := goodIn_r _ [21] (by decide +kernel) (by decide +kernel)
set_option maxRecDepth 20000 in
theorem gX1_allow_X5_cylinderOf_n36 : GoodIn wsX1_allow (wsX5_cylinderOf) := ggX1_allow_X5_cylinderOf
theorem dX1_allow_0 : decode cX1_allow 0 = .ok (.iload_n 2, 1) := by decide +kernel
theorem dX1_allow_1 : decode cX1_allow 1 = .ok (.invokestatic 26, 3) := by decide +kernel
theorem dX1_allow_4 : decode cX1_allow 4 = .ok (.istore_n 3, 1) := by decide +kernel
theorem dX1_allow_5 : decode cX1_allow 5 = .ok (.iload_n 1, 1) := by decide +kernel
theorem dX1_allow_6 : decode cX1_allow 6 = .ok (.invokestatic 30, 3) := by decide +kernel
theorem dX1_allow_9 : decode cX1_allow 9 = .ok (.istore 4, 2) := by decide +kernel
theorem dX1_allow_11 : decode cX1_allow 11 = .ok (.iconst 0, 1) := by decide +kernel
theorem dX1_allow_12 : decode cX1_allow 12 = .ok (.istore 5, 2) := by decide +kernel
theorem dX1_allow_14 : decode cX1_allow 14 = .ok (.iload 5, 2) := by decide +kernel
theorem dX1_allow_16 : decode cX1_allow 16 = .ok (.aload_n 0, 1) := by decide +kernel
theorem dX1_allow_17 : decode cX1_allow 17 = .ok (.getfield 18, 3) := by decide +kernel
theorem dX1_allow_20 : decode cX1_allow 20 = .ok (.if_icmp .ge 69, 3) := by decide +kernel
theorem dX1_allow_23 : decode cX1_allow 23 = .ok (.iload_n 3, 1) := by decide +kernel
theorem dX1_allow_24 : decode cX1_allow 24 = .ok (.aload_n 0, 1) := by decide +kernel
theorem dX1_allow_25 : decode cX1_allow 25 = .ok (.getfield 15, 3) := by decide +kernel
theorem dX1_allow_28 : decode cX1_allow 28 = .ok (.iload 5, 2) := by decide +kernel
theorem dX1_allow_30 : decode cX1_allow 30 = .ok (.iaload, 1) := by decide +kernel
theorem dX1_allow_31 : decode cX1_allow 31 = .ok (.invokestatic 33, 3) := by decide +kernel
theorem dX1_allow_34 : decode cX1_allow 34 = .ok (.ifCond .ne 21, 3) := by decide +kernel
theorem dX1_allow_37 : decode cX1_allow 37 = .ok (.iload 4, 2) := by decide +kernel
theorem dX1_allow_39 : decode cX1_allow 39 = .ok (.aload_n 0, 1) := by decide +kernel
theorem dX1_allow_40 : decode cX1_allow 40 = .ok (.getfield 15, 3) := by decide +kernel
theorem dX1_allow_43 : decode cX1_allow 43 = .ok (.iload 5, 2) := by decide +kernel
theorem dX1_allow_45 : decode cX1_allow 45 = .ok (.iaload, 1) := by decide +kernel
theorem dX1_allow_46 : decode cX1_allow 46 = .ok (.invokestatic 36, 3) := by decide +kernel
theorem dX1_allow_49 : decode cX1_allow 49 = .ok (.invokestatic 33, 3) := by decide +kernel
theorem dX1_allow_52 : decode cX1_allow 52 = .ok (.ifCond .eq 7, 3) := by decide +kernel
theorem dX1_allow_55 : decode cX1_allow 55 = .ok (.iconst 1, 1) := by decide +kernel
theorem dX1_allow_56 : decode cX1_allow 56 = .ok (.goto 4, 3) := by decide +kernel
theorem dX1_allow_59 : decode cX1_allow 59 = .ok (.iconst 0, 1) := by decide +kernel
theorem dX1_allow_60 : decode cX1_allow 60 = .ok (.istore 6, 2) := by decide +kernel
theorem dX1_allow_62 : decode cX1_allow 62 = .ok (.iload_n 1, 1) := by decide +kernel
theorem dX1_allow_63 : decode cX1_allow 63 = .ok (.aload_n 0, 1) := by decide +kernel
theorem dX1_allow_64 : decode cX1_allow 64 = .ok (.getfield 9, 3) := by decide +kernel
theorem dX1_allow_67 : decode cX1_allow 67 = .ok (.iload 5, 2) := by decide +kernel
theorem dX1_allow_69 : decode cX1_allow 69 = .ok (.iaload, 1) := by decide +kernel
theorem dX1_allow_70 : decode cX1_allow 70 = .ok (.invokestatic 33, 3) := by decide +kernel
theorem dX1_allow_73 : decode cX1_allow 73 = .ok (.ifCond .eq 10, 3) := by decide +kernel
theorem dX1_allow_76 : decode cX1_allow 76 = .ok (.iload 6, 2) := by decide +kernel
theorem dX1_allow_78 : decode cX1_allow 78 = .ok (.ifCond .eq 5, 3) := by decide +kernel
theorem dX1_allow_81 : decode cX1_allow 81 = .ok (.iconst 0, 1) := by decide +kernel
theorem dX1_allow_82 : decode cX1_allow 82 = .ok (.ireturn, 1) := by decide +kernel
theorem dX1_allow_83 : decode cX1_allow 83 = .ok (.iinc 5 1, 3) := by decide +kernel
theorem dX1_allow_86 : decode cX1_allow 86 = .ok (.goto (-72), 3) := by decide +kernel
theorem dX1_allow_89 : decode cX1_allow 89 = .ok (.iconst 1, 1) := by decide +kernel
theorem dX1_allow_90 : decode cX1_allow 90 = .ok (.ireturn, 1) := by decide +kernel
set_option maxRecDepth 20000 in
theorem ggX1_allowMove_X5_endsTo : GoodIn wsX1_allowMove wsX5_endsTo := goodIn_r _ [3] (by decide +kernel) (by decide +kernel)
set_option maxRecDepth 20000 in
theorem gX1_allowMove_X5_endsTo_n39 : GoodIn wsX1_allowMove (wsX5_endsTo) := ggX1_allowMove_X5_endsTo
set_option maxRecDepth 20000 in
theorem ggX1_allowMove_X1_allow : GoodIn wsX1_allowMove wsX1_allow := goodIn_r _ [8, 9, 10, 11, 12, 2, 13, 14, 1, 3, 15, 16, 17, 18, 19, 20, 21, 22, 23, 24, 25, 26, 27, 28, 29] (by decide +kernel) (by decide +kernel)
set_option maxRecDepth 20000 in
theorem gX1_allowMove_X1_allow : GoodIn wsX1_allowMove (wsV RX1 43 RX1 yX1_allow wsX1_allow) := goodIn_app (goodIn_of _ (by decide +kernel)) ggX1_allowMove_X1_allow
theorem dX1_allowMove_0 : decode cX1_allowMove 0 = .ok (.iconst 1, 1) := by decide +kernel
theorem dX1_allowMove_1 : decode cX1_allowMove 1 = .ok (.iload_n 2, 1) := by decide +kernel
theorem dX1_allowMove_2 : decode cX1_allowMove 2 = .ok (.ishl, 1) := by decide +kernel
theorem dX1_allowMove_3 : decode cX1_allowMove 3 = .ok (.istore_n 3, 1) := by decide +kernel
theorem dX1_allowMove_4 : decode cX1_allowMove 4 = .ok (.aload_n 0, 1) := by decide +kernel
theorem dX1_allowMove_5 : decode cX1_allowMove 5 = .ok (.iload_n 3, 1) := by decide +kernel
theorem dX1_allowMove_6 : decode cX1_allowMove 6 = .ok (.iload_n 1, 1) := by decide +kernel
theorem dX1_allowMove_7 : decode cX1_allowMove 7 = .ok (.iconst (-1), 1) := by decide +kernel
theorem dX1_allowMove_8 : decode cX1_allowMove 8 = .ok (.ixor, 1) := by decide +kernel
theorem dX1_allowMove_9 : decode cX1_allowMove 9 = .ok (.iand, 1) := by decide +kernel
theorem dX1_allowMove_10 : decode cX1_allowMove 10 = .ok (.iload_n 3, 1) := by decide +kernel
theorem dX1_allowMove_11 : decode cX1_allowMove 11 = .ok (.iload_n 1, 1) := by decide +kernel
theorem dX1_allowMove_12 : decode cX1_allowMove 12 = .ok (.iand, 1) := by decide +kernel
theorem dX1_allowMove_13 : decode cX1_allowMove 13 = .ok (.invokestatic 39, 3) := by decide +kernel
theorem dX1_allowMove_16 : decode cX1_allowMove 16 = .ok (.iload_n 1, 1) := by decide +kernel
theorem dX1_allowMove_17 : decode cX1_allowMove 17 = .ok (.invokevirtual 43, 3) := by decide +kernel
theorem dX1_allowMove_20 : decode cX1_allowMove 20 = .ok (.ireturn, 1) := by decide +kernel
theorem dX2_init_0 : decode cX2_init 0 = .ok (.aload_n 0, 1) := by decide +kernel
theorem dX2_init_1 : decode cX2_init 1 = .ok (.invokespecial 3, 3) := by decide +kernel
theorem dX2_init_4 : decode cX2_init 4 = .ok (.aload_n 0, 1) := by decide +kernel
theorem dX2_init_5 : decode cX2_init 5 = .ok (.bipush 12, 2) := by decide +kernel
theorem dX2_init_7 : decode cX2_init 7 = .ok (.newarray .int, 2) := by decide +kernel
theorem dX2_init_9 : decode cX2_init 9 = .ok (.putfield 9, 3) := by decide +kernel
theorem dX2_init_12 : decode cX2_init 12 = .ok (.aload_n 0, 1) := by decide +kernel
theorem dX2_init_13 : decode cX2_init 13 = .ok (.bipush 12, 2) := by decide +kernel
theorem dX2_init_15 : decode cX2_init 15 = .ok (.newarray .int, 2) := by decide +kernel
theorem dX2_init_17 : decode cX2_init 17 = .ok (.putfield 15, 3) := by decide +kernel
theorem dX2_init_20 : decode cX2_init 20 = .ok (.iconst 0, 1) := by decide +kernel
theorem dX2_init_21 : decode cX2_init 21 = .ok (.istore_n 1, 1) := by decide +kernel
theorem dX2_init_22 : decode cX2_init 22 = .ok (.iload_n 1, 1) := by decide +kernel
theorem dX2_init_23 : decode cX2_init 23 = .ok (.bipush 12, 2) := by decide +kernel
theorem dX2_init_25 : decode cX2_init 25 = .ok (.if_icmp .ge 23, 3) := by decide +kernel
theorem dX2_init_28 : decode cX2_init 28 = .ok (.aload_n 0, 1) := by decide +kernel
theorem dX2_init_29 : decode cX2_init 29 = .ok (.getfield 9, 3) := by decide +kernel
theorem dX2_init_32 : decode cX2_init 32 = .ok (.iload_n 1, 1) := by decide +kernel
theorem dX2_init_33 : decode cX2_init 33 = .ok (.iconst 1, 1) := by decide +kernel
theorem dX2_init_34 : decode cX2_init 34 = .ok (.iastore, 1) := by decide +kernel
theorem dX2_init_35 : decode cX2_init 35 = .ok (.aload_n 0, 1) := by decide +kernel
theorem dX2_init_36 : decode cX2_init 36 = .ok (.getfield 15, 3) := by decide +kernel
theorem dX2_init_39 : decode cX2_init 39 = .ok (.iload_n 1, 1) := by decide +kernel
theorem dX2_init_40 : decode cX2_init 40 = .ok (.iconst 1, 1) := by decide +kernel
theorem dX2_init_41 : decode cX2_init 41 = .ok (.iastore, 1) := by decide +kernel
theorem dX2_init_42 : decode cX2_init 42 = .ok (.iinc 1 1, 3) := by decide +kernel
theorem dX2_init_45 : decode cX2_init 45 = .ok (.goto (-23), 3) := by decide +kernel
theorem dX2_init_48 : decode cX2_init 48 = .ok (.return_, 1) := by decide +kernel
set_option maxRecDepth 20000 in
theorem ggX2_put_X5_isBelow : GoodIn wsX2_put wsX5_isBelow := goodIn_r _ [5] (by decide +kernel) (by decide +kernel)
set_option maxRecDepth 20000 in
theorem gX2_put_X5_isBelow_n18 : GoodIn wsX2_put (wsX5_isBelow) := ggX2_put_X5_isBelow
theorem dX2_put_0 : decode cX2_put 0 = .ok (.iload_n 1, 1) := by decide +kernel
theorem dX2_put_1 : decode cX2_put 1 = .ok (.bipush 12, 2) := by decide +kernel
theorem dX2_put_3 : decode cX2_put 3 = .ok (.invokestatic 18, 3) := by decide +kernel
theorem dX2_put_6 : decode cX2_put 6 = .ok (.ifCond .ne 4, 3) := by decide +kernel
theorem dX2_put_9 : decode cX2_put 9 = .ok (.return_, 1) := by decide +kernel
theorem dX2_put_10 : decode cX2_put 10 = .ok (.aload_n 0, 1) := by decide +kernel
theorem dX2_put_11 : decode cX2_put 11 = .ok (.getfield 9, 3) := by decide +kernel
theorem dX2_put_14 : decode cX2_put 14 = .ok (.iload_n 1, 1) := by decide +kernel
theorem dX2_put_15 : decode cX2_put 15 = .ok (.iload_n 2, 1) := by decide +kernel
theorem dX2_put_16 : decode cX2_put 16 = .ok (.iastore, 1) := by decide +kernel
theorem dX2_put_17 : decode cX2_put 17 = .ok (.aload_n 0, 1) := by decide +kernel
theorem dX2_put_18 : decode cX2_put 18 = .ok (.getfield 15, 3) := by decide +kernel
theorem dX2_put_21 : decode cX2_put 21 = .ok (.iload_n 1, 1) := by decide +kernel
theorem dX2_put_22 : decode cX2_put 22 = .ok (.iload_n 3, 1) := by decide +kernel
theorem dX2_put_23 : decode cX2_put 23 = .ok (.iastore, 1) := by decide +kernel
theorem dX2_put_24 : decode cX2_put 24 = .ok (.return_, 1) := by decide +kernel
set_option maxRecDepth 20000 in
theorem ggX2_leastOfLoop_X2_sum : GoodIn wsX2_leastOfLoop wsX2_sum := goodIn_r _ [5, 6, 7, 8, 9, 10, 11, 12, 13, 14, 15, 16, 17, 18, 19, 20, 21, 4, 22, 23, 24, 25, 26, 27, 28, 31, 32, 33] (by decide +kernel) (by decide +kernel)
set_option maxRecDepth 20000 in
theorem gX2_leastOfLoop_X2_sum : GoodIn wsX2_leastOfLoop (va_wsS RX2 22 yX2_sum wsX2_sum) := goodIn_app (goodIn_of _ (by decide +kernel)) ggX2_leastOfLoop_X2_sum
theorem dX2_leastOfLoop_0 : decode cX2_leastOfLoop 0 = .ok (.aload_n 0, 1) := by decide +kernel
theorem dX2_leastOfLoop_1 : decode cX2_leastOfLoop 1 = .ok (.getfield 9, 3) := by decide +kernel
theorem dX2_leastOfLoop_4 : decode cX2_leastOfLoop 4 = .ok (.aload_n 1, 1) := by decide +kernel
theorem dX2_leastOfLoop_5 : decode cX2_leastOfLoop 5 = .ok (.invokestatic 22, 3) := by decide +kernel
theorem dX2_leastOfLoop_8 : decode cX2_leastOfLoop 8 = .ok (.ireturn, 1) := by decide +kernel
set_option maxRecDepth 20000 in
theorem ggX2_mostOfLoop_X2_sum : GoodIn wsX2_mostOfLoop wsX2_sum := goodIn_r _ [5, 6, 7, 8, 9, 10, 11, 12, 13, 14, 15, 16, 17, 18, 19, 20, 21, 4, 22, 23, 24, 25, 26, 27, 28, 31, 32, 33] (by decide +kernel) (by decide +kernel)
set_option maxRecDepth 20000 in
theorem gX2_mostOfLoop_X2_sum : GoodIn wsX2_mostOfLoop (va_wsS RX2 22 yX2_sum wsX2_sum) := goodIn_app (goodIn_of _ (by decide +kernel)) ggX2_mostOfLoop_X2_sum
theorem dX2_mostOfLoop_0 : decode cX2_mostOfLoop 0 = .ok (.aload_n 0, 1) := by decide +kernel
theorem dX2_mostOfLoop_1 : decode cX2_mostOfLoop 1 = .ok (.getfield 15, 3) := by decide +kernel
theorem dX2_mostOfLoop_4 : decode cX2_mostOfLoop 4 = .ok (.aload_n 1, 1) := by decide +kernel
theorem dX2_mostOfLoop_5 : decode cX2_mostOfLoop 5 = .ok (.invokestatic 22, 3) := by decide +kernel
theorem dX2_mostOfLoop_8 : decode cX2_mostOfLoop 8 = .ok (.ireturn, 1) := by decide +kernel
set_option maxRecDepth 20000 in
theorem ggX2_sum_X3_size : GoodIn wsX2_sum wsX3_size := goodIn_r _ [5, 6, 25, 26, 27] (by decide +kernel) (by decide +kernel)
set_option maxRecDepth 20000 in
theorem gX2_sum_X3_size : GoodIn wsX2_sum (wsV RX2 26 RX3 yX3_size wsX3_size) := goodIn_app (goodIn_of _ (by decide +kernel)) ggX2_sum_X3_size
set_option maxRecDepth 20000 in
theorem ggX2_sum_X3_endsOf : GoodIn wsX2_sum wsX3_endsOf := goodIn_r _ [10, 6, 11, 12, 13, 14, 25, 26, 27] (by decide +kernel) (by decide +kernel)
set_option maxRecDepth 20000 in
theorem gX2_sum_X3_endsOf : GoodIn wsX2_sum (wsV RX2 32 RX3 yX3_endsOf wsX3_endsOf) := goodIn_app (goodIn_of _ (by decide +kernel)) ggX2_sum_X3_endsOf
set_option maxRecDepth 20000 in
theorem ggX2_sum_X2_longest : GoodIn wsX2_sum wsX2_longest := goodIn_r _ [18, 19, 20, 21, 22, 23, 13, 24] (by decide +kernel) (by decide +kernel)
set_option maxRecDepth 20000 in
theorem gX2_sum_X2_longest : GoodIn wsX2_sum (va_wsS RX2 36 yX2_longest wsX2_longest) := goodIn_app (goodIn_of _ (by decide +kernel)) ggX2_sum_X2_longest
theorem dX2_sum_0 : decode cX2_sum 0 = .ok (.iconst 0, 1) := by decide +kernel
theorem dX2_sum_1 : decode cX2_sum 1 = .ok (.istore_n 2, 1) := by decide +kernel
theorem dX2_sum_2 : decode cX2_sum 2 = .ok (.iconst 0, 1) := by decide +kernel
theorem dX2_sum_3 : decode cX2_sum 3 = .ok (.istore_n 3, 1) := by decide +kernel
theorem dX2_sum_4 : decode cX2_sum 4 = .ok (.iload_n 3, 1) := by decide +kernel
theorem dX2_sum_5 : decode cX2_sum 5 = .ok (.aload_n 1, 1) := by decide +kernel
theorem dX2_sum_6 : decode cX2_sum 6 = .ok (.invokevirtual 26, 3) := by decide +kernel
theorem dX2_sum_9 : decode cX2_sum 9 = .ok (.if_icmp .ge 21, 3) := by decide +kernel
theorem dX2_sum_12 : decode cX2_sum 12 = .ok (.iload_n 2, 1) := by decide +kernel
theorem dX2_sum_13 : decode cX2_sum 13 = .ok (.aload_n 0, 1) := by decide +kernel
theorem dX2_sum_14 : decode cX2_sum 14 = .ok (.aload_n 1, 1) := by decide +kernel
theorem dX2_sum_15 : decode cX2_sum 15 = .ok (.iload_n 3, 1) := by decide +kernel
theorem dX2_sum_16 : decode cX2_sum 16 = .ok (.invokevirtual 32, 3) := by decide +kernel
theorem dX2_sum_19 : decode cX2_sum 19 = .ok (.invokestatic 36, 3) := by decide +kernel
theorem dX2_sum_22 : decode cX2_sum 22 = .ok (.iadd, 1) := by decide +kernel
theorem dX2_sum_23 : decode cX2_sum 23 = .ok (.istore_n 2, 1) := by decide +kernel
theorem dX2_sum_24 : decode cX2_sum 24 = .ok (.iinc 3 1, 3) := by decide +kernel
theorem dX2_sum_27 : decode cX2_sum 27 = .ok (.goto (-23), 3) := by decide +kernel
theorem dX2_sum_30 : decode cX2_sum 30 = .ok (.iload_n 2, 1) := by decide +kernel
theorem dX2_sum_31 : decode cX2_sum 31 = .ok (.ireturn, 1) := by decide +kernel
set_option maxRecDepth 20000 in
theorem ggX2_slowest_X3_size : GoodIn wsX2_slowest wsX3_size := goodIn_r _ [6, 7, 28, 29, 30] (by decide +kernel) (by decide +kernel)
set_option maxRecDepth 20000 in
theorem gX2_slowest_X3_size : GoodIn wsX2_slowest (wsV RX2 26 RX3 yX3_size wsX3_size) := goodIn_app (goodIn_of _ (by decide +kernel)) ggX2_slowest_X3_size
set_option maxRecDepth 20000 in
theorem ggX2_slowest_X3_endsOf : GoodIn wsX2_slowest wsX3_endsOf := goodIn_r _ [11, 7, 12, 13, 14, 15, 28, 29, 30] (by decide +kernel) (by decide +kernel)
set_option maxRecDepth 20000 in
theorem gX2_slowest_X3_endsOf : GoodIn wsX2_slowest (wsV RX2 32 RX3 yX3_endsOf wsX3_endsOf) := goodIn_app (goodIn_of _ (by decide +kernel)) ggX2_slowest_X3_endsOf
set_option maxRecDepth 20000 in
theorem ggX2_slowest_X2_longest : GoodIn wsX2_slowest wsX2_longest := goodIn_r _ [19, 20, 21, 22, 23, 24, 14, 25] (by decide +kernel) (by decide +kernel)
set_option maxRecDepth 20000 in
theorem gX2_slowest_X2_longest : GoodIn wsX2_slowest (va_wsS RX2 36 yX2_longest wsX2_longest) := goodIn_app (goodIn_of _ (by decide +kernel)) ggX2_slowest_X2_longest
theorem dX2_slowest_0 : decode cX2_slowest 0 = .ok (.iconst (-1), 1) := by decide +kernel
theorem dX2_slowest_1 : decode cX2_slowest 1 = .ok (.istore_n 2, 1) := by decide +kernel
theorem dX2_slowest_2 : decode cX2_slowest 2 = .ok (.iconst 0, 1) := by decide +kernel
theorem dX2_slowest_3 : decode cX2_slowest 3 = .ok (.istore_n 3, 1) := by decide +kernel
theorem dX2_slowest_4 : decode cX2_slowest 4 = .ok (.iconst 0, 1) := by decide +kernel
theorem dX2_slowest_5 : decode cX2_slowest 5 = .ok (.istore 4, 2) := by decide +kernel
theorem dX2_slowest_7 : decode cX2_slowest 7 = .ok (.iload 4, 2) := by decide +kernel
theorem dX2_slowest_9 : decode cX2_slowest 9 = .ok (.aload_n 1, 1) := by decide +kernel
theorem dX2_slowest_10 : decode cX2_slowest 10 = .ok (.invokevirtual 26, 3) := by decide +kernel
theorem dX2_slowest_13 : decode cX2_slowest 13 = .ok (.if_icmp .ge 36, 3) := by decide +kernel
theorem dX2_slowest_16 : decode cX2_slowest 16 = .ok (.aload_n 0, 1) := by decide +kernel
theorem dX2_slowest_17 : decode cX2_slowest 17 = .ok (.getfield 15, 3) := by decide +kernel
theorem dX2_slowest_20 : decode cX2_slowest 20 = .ok (.aload_n 1, 1) := by decide +kernel
theorem dX2_slowest_21 : decode cX2_slowest 21 = .ok (.iload 4, 2) := by decide +kernel
theorem dX2_slowest_23 : decode cX2_slowest 23 = .ok (.invokevirtual 32, 3) := by decide +kernel
theorem dX2_slowest_26 : decode cX2_slowest 26 = .ok (.invokestatic 36, 3) := by decide +kernel
theorem dX2_slowest_29 : decode cX2_slowest 29 = .ok (.istore 5, 2) := by decide +kernel
theorem dX2_slowest_31 : decode cX2_slowest 31 = .ok (.iload 5, 2) := by decide +kernel
theorem dX2_slowest_33 : decode cX2_slowest 33 = .ok (.iload_n 3, 1) := by decide +kernel
theorem dX2_slowest_34 : decode cX2_slowest 34 = .ok (.if_icmp .le 9, 3) := by decide +kernel
theorem dX2_slowest_37 : decode cX2_slowest 37 = .ok (.iload 5, 2) := by decide +kernel
theorem dX2_slowest_39 : decode cX2_slowest 39 = .ok (.istore_n 3, 1) := by decide +kernel
theorem dX2_slowest_40 : decode cX2_slowest 40 = .ok (.iload 4, 2) := by decide +kernel
theorem dX2_slowest_42 : decode cX2_slowest 42 = .ok (.istore_n 2, 1) := by decide +kernel
theorem dX2_slowest_43 : decode cX2_slowest 43 = .ok (.iinc 4 1, 3) := by decide +kernel
theorem dX2_slowest_46 : decode cX2_slowest 46 = .ok (.goto (-39), 3) := by decide +kernel
theorem dX2_slowest_49 : decode cX2_slowest 49 = .ok (.iload_n 2, 1) := by decide +kernel
theorem dX2_slowest_50 : decode cX2_slowest 50 = .ok (.ireturn, 1) := by decide +kernel
set_option maxRecDepth 20000 in
theorem ggX2_longest_X5_has : GoodIn wsX2_longest wsX5_has := goodIn_r _ [7] (by decide +kernel) (by decide +kernel)
set_option maxRecDepth 20000 in
theorem gX2_longest_X5_has_n40 : GoodIn wsX2_longest (wsX5_has) := ggX2_longest_X5_has
theorem dX2_longest_0 : decode cX2_longest 0 = .ok (.iconst 0, 1) := by decide +kernel
theorem dX2_longest_1 : decode cX2_longest 1 = .ok (.istore_n 2, 1) := by decide +kernel
theorem dX2_longest_2 : decode cX2_longest 2 = .ok (.iconst 0, 1) := by decide +kernel
theorem dX2_longest_3 : decode cX2_longest 3 = .ok (.istore_n 3, 1) := by decide +kernel
theorem dX2_longest_4 : decode cX2_longest 4 = .ok (.iload_n 3, 1) := by decide +kernel
theorem dX2_longest_5 : decode cX2_longest 5 = .ok (.aload_n 0, 1) := by decide +kernel
theorem dX2_longest_6 : decode cX2_longest 6 = .ok (.arraylength, 1) := by decide +kernel
theorem dX2_longest_7 : decode cX2_longest 7 = .ok (.if_icmp .ge 25, 3) := by decide +kernel
theorem dX2_longest_10 : decode cX2_longest 10 = .ok (.iload_n 1, 1) := by decide +kernel
theorem dX2_longest_11 : decode cX2_longest 11 = .ok (.iload_n 3, 1) := by decide +kernel
theorem dX2_longest_12 : decode cX2_longest 12 = .ok (.invokestatic 40, 3) := by decide +kernel
theorem dX2_longest_15 : decode cX2_longest 15 = .ok (.ifCond .eq 11, 3) := by decide +kernel
theorem dX2_longest_18 : decode cX2_longest 18 = .ok (.iload_n 2, 1) := by decide +kernel
theorem dX2_longest_19 : decode cX2_longest 19 = .ok (.aload_n 0, 1) := by decide +kernel
theorem dX2_longest_20 : decode cX2_longest 20 = .ok (.iload_n 3, 1) := by decide +kernel
theorem dX2_longest_21 : decode cX2_longest 21 = .ok (.iaload, 1) := by decide +kernel
theorem dX2_longest_22 : decode cX2_longest 22 = .ok (.invokestatic 43, 3) := by decide +kernel
theorem dX2_longest_25 : decode cX2_longest 25 = .ok (.istore_n 2, 1) := by decide +kernel
theorem dX2_longest_26 : decode cX2_longest 26 = .ok (.iinc 3 1, 3) := by decide +kernel
theorem dX2_longest_29 : decode cX2_longest 29 = .ok (.goto (-25), 3) := by decide +kernel
theorem dX2_longest_32 : decode cX2_longest 32 = .ok (.iload_n 2, 1) := by decide +kernel
theorem dX2_longest_33 : decode cX2_longest 33 = .ok (.ireturn, 1) := by decide +kernel
theorem dX3_init_0 : decode cX3_init 0 = .ok (.aload_n 0, 1) := by decide +kernel
theorem dX3_init_1 : decode cX3_init 1 = .ok (.invokespecial 3, 3) := by decide +kernel
theorem dX3_init_4 : decode cX3_init 4 = .ok (.aload_n 0, 1) := by decide +kernel
theorem dX3_init_5 : decode cX3_init 5 = .ok (.bipush 16, 2) := by decide +kernel
theorem dX3_init_7 : decode cX3_init 7 = .ok (.newarray .int, 2) := by decide +kernel
theorem dX3_init_9 : decode cX3_init 9 = .ok (.putfield 9, 3) := by decide +kernel
theorem dX3_init_12 : decode cX3_init 12 = .ok (.aload_n 0, 1) := by decide +kernel
theorem dX3_init_13 : decode cX3_init 13 = .ok (.bipush 17, 2) := by decide +kernel
theorem dX3_init_15 : decode cX3_init 15 = .ok (.newarray .int, 2) := by decide +kernel
theorem dX3_init_17 : decode cX3_init 17 = .ok (.putfield 15, 3) := by decide +kernel
theorem dX3_init_20 : decode cX3_init 20 = .ok (.aload_n 0, 1) := by decide +kernel
theorem dX3_init_21 : decode cX3_init 21 = .ok (.iconst 0, 1) := by decide +kernel
theorem dX3_init_22 : decode cX3_init 22 = .ok (.putfield 18, 3) := by decide +kernel
theorem dX3_init_25 : decode cX3_init 25 = .ok (.return_, 1) := by decide +kernel
theorem dX3_size_0 : decode cX3_size 0 = .ok (.aload_n 0, 1) := by decide +kernel
theorem dX3_size_1 : decode cX3_size 1 = .ok (.getfield 18, 3) := by decide +kernel
theorem dX3_size_4 : decode cX3_size 4 = .ok (.ireturn, 1) := by decide +kernel
set_option maxRecDepth 20000 in
theorem ggX3_add_X5_endsTo : GoodIn wsX3_add wsX5_endsTo := goodIn_r _ [6] (by decide +kernel) (by decide +kernel)
set_option maxRecDepth 20000 in
theorem gX3_add_X5_endsTo_n22 : GoodIn wsX3_add (wsX5_endsTo) := ggX3_add_X5_endsTo
theorem dX3_add_0 : decode cX3_add 0 = .ok (.aload_n 0, 1) := by decide +kernel
theorem dX3_add_1 : decode cX3_add 1 = .ok (.getfield 18, 3) := by decide +kernel
theorem dX3_add_4 : decode cX3_add 4 = .ok (.bipush 16, 2) := by decide +kernel
theorem dX3_add_6 : decode cX3_add 6 = .ok (.if_icmp .lt 4, 3) := by decide +kernel
theorem dX3_add_9 : decode cX3_add 9 = .ok (.return_, 1) := by decide +kernel
theorem dX3_add_10 : decode cX3_add 10 = .ok (.aload_n 0, 1) := by decide +kernel
theorem dX3_add_11 : decode cX3_add 11 = .ok (.getfield 9, 3) := by decide +kernel
theorem dX3_add_14 : decode cX3_add 14 = .ok (.aload_n 0, 1) := by decide +kernel
theorem dX3_add_15 : decode cX3_add 15 = .ok (.getfield 18, 3) := by decide +kernel
theorem dX3_add_18 : decode cX3_add 18 = .ok (.iload_n 1, 1) := by decide +kernel
theorem dX3_add_19 : decode cX3_add 19 = .ok (.iload_n 2, 1) := by decide +kernel
theorem dX3_add_20 : decode cX3_add 20 = .ok (.invokestatic 22, 3) := by decide +kernel
theorem dX3_add_23 : decode cX3_add 23 = .ok (.iastore, 1) := by decide +kernel
theorem dX3_add_24 : decode cX3_add 24 = .ok (.aload_n 0, 1) := by decide +kernel
theorem dX3_add_25 : decode cX3_add 25 = .ok (.getfield 15, 3) := by decide +kernel
theorem dX3_add_28 : decode cX3_add 28 = .ok (.aload_n 0, 1) := by decide +kernel
theorem dX3_add_29 : decode cX3_add 29 = .ok (.getfield 18, 3) := by decide +kernel
theorem dX3_add_32 : decode cX3_add 32 = .ok (.iconst 1, 1) := by decide +kernel
theorem dX3_add_33 : decode cX3_add 33 = .ok (.iadd, 1) := by decide +kernel
theorem dX3_add_34 : decode cX3_add 34 = .ok (.aload_n 0, 1) := by decide +kernel
theorem dX3_add_35 : decode cX3_add 35 = .ok (.getfield 15, 3) := by decide +kernel
theorem dX3_add_38 : decode cX3_add 38 = .ok (.aload_n 0, 1) := by decide +kernel
theorem dX3_add_39 : decode cX3_add 39 = .ok (.getfield 18, 3) := by decide +kernel
theorem dX3_add_42 : decode cX3_add 42 = .ok (.iaload, 1) := by decide +kernel
theorem dX3_add_43 : decode cX3_add 43 = .ok (.iload_n 1, 1) := by decide +kernel
theorem dX3_add_44 : decode cX3_add 44 = .ok (.ior, 1) := by decide +kernel
theorem dX3_add_45 : decode cX3_add 45 = .ok (.iload_n 2, 1) := by decide +kernel
theorem dX3_add_46 : decode cX3_add 46 = .ok (.iconst (-1), 1) := by decide +kernel
theorem dX3_add_47 : decode cX3_add 47 = .ok (.ixor, 1) := by decide +kernel
theorem dX3_add_48 : decode cX3_add 48 = .ok (.iand, 1) := by decide +kernel
theorem dX3_add_49 : decode cX3_add 49 = .ok (.iastore, 1) := by decide +kernel
theorem dX3_add_50 : decode cX3_add 50 = .ok (.aload_n 0, 1) := by decide +kernel
theorem dX3_add_51 : decode cX3_add 51 = .ok (.dup, 1) := by decide +kernel
theorem dX3_add_52 : decode cX3_add 52 = .ok (.getfield 18, 3) := by decide +kernel
theorem dX3_add_55 : decode cX3_add 55 = .ok (.iconst 1, 1) := by decide +kernel
theorem dX3_add_56 : decode cX3_add 56 = .ok (.iadd, 1) := by decide +kernel
theorem dX3_add_57 : decode cX3_add 57 = .ok (.putfield 18, 3) := by decide +kernel
theorem dX3_add_60 : decode cX3_add 60 = .ok (.return_, 1) := by decide +kernel
theorem dX3_removeLast_0 : decode cX3_removeLast 0 = .ok (.aload_n 0, 1) := by decide +kernel
theorem dX3_removeLast_1 : decode cX3_removeLast 1 = .ok (.getfield 18, 3) := by decide +kernel
theorem dX3_removeLast_4 : decode cX3_removeLast 4 = .ok (.ifCond .le 13, 3) := by decide +kernel
theorem dX3_removeLast_7 : decode cX3_removeLast 7 = .ok (.aload_n 0, 1) := by decide +kernel
theorem dX3_removeLast_8 : decode cX3_removeLast 8 = .ok (.dup, 1) := by decide +kernel
theorem dX3_removeLast_9 : decode cX3_removeLast 9 = .ok (.getfield 18, 3) := by decide +kernel
theorem dX3_removeLast_12 : decode cX3_removeLast 12 = .ok (.iconst 1, 1) := by decide +kernel
theorem dX3_removeLast_13 : decode cX3_removeLast 13 = .ok (.isub, 1) := by decide +kernel
theorem dX3_removeLast_14 : decode cX3_removeLast 14 = .ok (.putfield 18, 3) := by decide +kernel
theorem dX3_removeLast_17 : decode cX3_removeLast 17 = .ok (.return_, 1) := by decide +kernel
set_option maxRecDepth 20000 in
theorem ggX3_endsOf_X5_isBelow : GoodIn wsX3_endsOf wsX5_isBelow := goodIn_r _ [5] (by decide +kernel) (by decide +kernel)
set_option maxRecDepth 20000 in
theorem gX3_endsOf_X5_isBelow_n26 : GoodIn wsX3_endsOf (wsX5_isBelow) := ggX3_endsOf_X5_isBelow
theorem dX3_endsOf_0 : decode cX3_endsOf 0 = .ok (.iload_n 1, 1) := by decide +kernel
theorem dX3_endsOf_1 : decode cX3_endsOf 1 = .ok (.aload_n 0, 1) := by decide +kernel
theorem dX3_endsOf_2 : decode cX3_endsOf 2 = .ok (.getfield 18, 3) := by decide +kernel
theorem dX3_endsOf_5 : decode cX3_endsOf 5 = .ok (.invokestatic 26, 3) := by decide +kernel
theorem dX3_endsOf_8 : decode cX3_endsOf 8 = .ok (.ifCond .eq 12, 3) := by decide +kernel
theorem dX3_endsOf_11 : decode cX3_endsOf 11 = .ok (.aload_n 0, 1) := by decide +kernel
theorem dX3_endsOf_12 : decode cX3_endsOf 12 = .ok (.getfield 9, 3) := by decide +kernel
theorem dX3_endsOf_15 : decode cX3_endsOf 15 = .ok (.iload_n 1, 1) := by decide +kernel
theorem dX3_endsOf_16 : decode cX3_endsOf 16 = .ok (.iaload, 1) := by decide +kernel
theorem dX3_endsOf_17 : decode cX3_endsOf 17 = .ok (.goto 4, 3) := by decide +kernel
theorem dX3_endsOf_20 : decode cX3_endsOf 20 = .ok (.iconst 0, 1) := by decide +kernel
theorem dX3_endsOf_21 : decode cX3_endsOf 21 = .ok (.ireturn, 1) := by decide +kernel
set_option maxRecDepth 20000 in
theorem ggX3_stateAt_X5_isBelow : GoodIn wsX3_stateAt wsX5_isBelow := goodIn_r _ [5] (by decide +kernel) (by decide +kernel)
set_option maxRecDepth 20000 in
theorem gX3_stateAt_X5_isBelow_n26 : GoodIn wsX3_stateAt (wsX5_isBelow) := ggX3_stateAt_X5_isBelow
theorem dX3_stateAt_0 : decode cX3_stateAt 0 = .ok (.iload_n 1, 1) := by decide +kernel
theorem dX3_stateAt_1 : decode cX3_stateAt 1 = .ok (.aload_n 0, 1) := by decide +kernel
theorem dX3_stateAt_2 : decode cX3_stateAt 2 = .ok (.getfield 18, 3) := by decide +kernel
theorem dX3_stateAt_5 : decode cX3_stateAt 5 = .ok (.invokestatic 26, 3) := by decide +kernel
theorem dX3_stateAt_8 : decode cX3_stateAt 8 = .ok (.ifCond .eq 12, 3) := by decide +kernel
theorem dX3_stateAt_11 : decode cX3_stateAt 11 = .ok (.aload_n 0, 1) := by decide +kernel
theorem dX3_stateAt_12 : decode cX3_stateAt 12 = .ok (.getfield 15, 3) := by decide +kernel
theorem dX3_stateAt_15 : decode cX3_stateAt 15 = .ok (.iload_n 1, 1) := by decide +kernel
end
section
theorem dX3_stateAt_16 : decode cX3_stateAt 16 = .ok (.iaload, 1) := by decide +kernel
theorem dX3_stateAt_17 : decode cX3_stateAt 17 = .ok (.goto 4, 3) := by decide +kernel
theorem dX3_stateAt_20 : decode cX3_stateAt 20 = .ok (.iconst 0, 1) := by decide +kernel
theorem dX3_stateAt_21 : decode cX3_stateAt 21 = .ok (.ireturn, 1) := by decide +kernel
set_option maxRecDepth 20000 in
theorem ggX3_trigger_X3_endsOf : GoodIn wsX3_trigger wsX3_endsOf := goodIn_r _ [6, 1, 7, 8, 9, 10, 11, 12, 13] (by decide +kernel) (by decide +kernel)
set_option maxRecDepth 20000 in
theorem gX3_trigger_X3_endsOf : GoodIn wsX3_trigger (wsV RX3 30 RX3 yX3_endsOf wsX3_endsOf) := goodIn_app (goodIn_of _ (by decide +kernel)) ggX3_trigger_X3_endsOf
theorem dX3_trigger_0 : decode cX3_trigger 0 = .ok (.aload_n 0, 1) := by decide +kernel
theorem dX3_trigger_1 : decode cX3_trigger 1 = .ok (.iload_n 1, 1) := by decide +kernel
theorem dX3_trigger_2 : decode cX3_trigger 2 = .ok (.ifCond .ne 12, 3) := by decide +kernel
theorem dX3_trigger_5 : decode cX3_trigger 5 = .ok (.aload_n 0, 1) := by decide +kernel
theorem dX3_trigger_6 : decode cX3_trigger 6 = .ok (.getfield 18, 3) := by decide +kernel
theorem dX3_trigger_9 : decode cX3_trigger 9 = .ok (.iconst 1, 1) := by decide +kernel
theorem dX3_trigger_10 : decode cX3_trigger 10 = .ok (.isub, 1) := by decide +kernel
theorem dX3_trigger_11 : decode cX3_trigger 11 = .ok (.goto 6, 3) := by decide +kernel
theorem dX3_trigger_14 : decode cX3_trigger 14 = .ok (.iload_n 1, 1) := by decide +kernel
theorem dX3_trigger_15 : decode cX3_trigger 15 = .ok (.iconst 1, 1) := by decide +kernel
theorem dX3_trigger_16 : decode cX3_trigger 16 = .ok (.isub, 1) := by decide +kernel
theorem dX3_trigger_17 : decode cX3_trigger 17 = .ok (.invokevirtual 30, 3) := by decide +kernel
theorem dX3_trigger_20 : decode cX3_trigger 20 = .ok (.ireturn, 1) := by decide +kernel
set_option maxRecDepth 20000 in
theorem ggX3_isSound_X3_firstWrong : GoodIn wsX3_isSound wsX3_firstWrong := goodIn_r _ [5, 6, 7, 8, 9, 10, 11, 12, 13, 14, 15, 16, 17] (by decide +kernel) (by decide +kernel)
set_option maxRecDepth 20000 in
theorem gX3_isSound_X3_firstWrong : GoodIn wsX3_isSound (wsV RX3 34 RX3 yX3_firstWrong wsX3_firstWrong) := goodIn_app (goodIn_of _ (by decide +kernel)) ggX3_isSound_X3_firstWrong
theorem dX3_isSound_0 : decode cX3_isSound 0 = .ok (.aload_n 0, 1) := by decide +kernel
theorem dX3_isSound_1 : decode cX3_isSound 1 = .ok (.invokevirtual 34, 3) := by decide +kernel
theorem dX3_isSound_4 : decode cX3_isSound 4 = .ok (.iconst (-1), 1) := by decide +kernel
theorem dX3_isSound_5 : decode cX3_isSound 5 = .ok (.if_icmp .ne 7, 3) := by decide +kernel
theorem dX3_isSound_8 : decode cX3_isSound 8 = .ok (.iconst 1, 1) := by decide +kernel
theorem dX3_isSound_9 : decode cX3_isSound 9 = .ok (.goto 4, 3) := by decide +kernel
theorem dX3_isSound_12 : decode cX3_isSound 12 = .ok (.iconst 0, 1) := by decide +kernel
theorem dX3_isSound_13 : decode cX3_isSound 13 = .ok (.ireturn, 1) := by decide +kernel
set_option maxRecDepth 20000 in
theorem ggX3_firstWrong_X5_sensorsOn : GoodIn wsX3_firstWrong wsX5_sensorsOn := goodIn_r _ [6, 7, 8, 5, 9] (by decide +kernel) (by decide +kernel)
set_option maxRecDepth 20000 in
theorem gX3_firstWrong_X5_sensorsOn_n38 : GoodIn wsX3_firstWrong (wsX5_sensorsOn) := ggX3_firstWrong_X5_sensorsOn
theorem dX3_firstWrong_0 : decode cX3_firstWrong 0 = .ok (.iconst 0, 1) := by decide +kernel
theorem dX3_firstWrong_1 : decode cX3_firstWrong 1 = .ok (.istore_n 1, 1) := by decide +kernel
theorem dX3_firstWrong_2 : decode cX3_firstWrong 2 = .ok (.iload_n 1, 1) := by decide +kernel
theorem dX3_firstWrong_3 : decode cX3_firstWrong 3 = .ok (.aload_n 0, 1) := by decide +kernel
theorem dX3_firstWrong_4 : decode cX3_firstWrong 4 = .ok (.getfield 18, 3) := by decide +kernel
theorem dX3_firstWrong_7 : decode cX3_firstWrong 7 = .ok (.if_icmp .ge 30, 3) := by decide +kernel
theorem dX3_firstWrong_10 : decode cX3_firstWrong 10 = .ok (.aload_n 0, 1) := by decide +kernel
theorem dX3_firstWrong_11 : decode cX3_firstWrong 11 = .ok (.getfield 9, 3) := by decide +kernel
theorem dX3_firstWrong_14 : decode cX3_firstWrong 14 = .ok (.iload_n 1, 1) := by decide +kernel
theorem dX3_firstWrong_15 : decode cX3_firstWrong 15 = .ok (.iaload, 1) := by decide +kernel
theorem dX3_firstWrong_16 : decode cX3_firstWrong 16 = .ok (.aload_n 0, 1) := by decide +kernel
theorem dX3_firstWrong_17 : decode cX3_firstWrong 17 = .ok (.getfield 15, 3) := by decide +kernel
theorem dX3_firstWrong_20 : decode cX3_firstWrong 20 = .ok (.iload_n 1, 1) := by decide +kernel
theorem dX3_firstWrong_21 : decode cX3_firstWrong 21 = .ok (.iaload, 1) := by decide +kernel
theorem dX3_firstWrong_22 : decode cX3_firstWrong 22 = .ok (.invokestatic 38, 3) := by decide +kernel
theorem dX3_firstWrong_25 : decode cX3_firstWrong 25 = .ok (.iand, 1) := by decide +kernel
theorem dX3_firstWrong_26 : decode cX3_firstWrong 26 = .ok (.ifCond .eq 5, 3) := by decide +kernel
theorem dX3_firstWrong_29 : decode cX3_firstWrong 29 = .ok (.iload_n 1, 1) := by decide +kernel
theorem dX3_firstWrong_30 : decode cX3_firstWrong 30 = .ok (.ireturn, 1) := by decide +kernel
theorem dX3_firstWrong_31 : decode cX3_firstWrong 31 = .ok (.iinc 1 1, 3) := by decide +kernel
theorem dX3_firstWrong_34 : decode cX3_firstWrong 34 = .ok (.goto (-32), 3) := by decide +kernel
theorem dX3_firstWrong_37 : decode cX3_firstWrong 37 = .ok (.aload_n 0, 1) := by decide +kernel
theorem dX3_firstWrong_38 : decode cX3_firstWrong 38 = .ok (.getfield 18, 3) := by decide +kernel
theorem dX3_firstWrong_41 : decode cX3_firstWrong 41 = .ok (.ifCond .eq 15, 3) := by decide +kernel
theorem dX3_firstWrong_44 : decode cX3_firstWrong 44 = .ok (.aload_n 0, 1) := by decide +kernel
theorem dX3_firstWrong_45 : decode cX3_firstWrong 45 = .ok (.getfield 15, 3) := by decide +kernel
theorem dX3_firstWrong_48 : decode cX3_firstWrong 48 = .ok (.aload_n 0, 1) := by decide +kernel
theorem dX3_firstWrong_49 : decode cX3_firstWrong 49 = .ok (.getfield 18, 3) := by decide +kernel
theorem dX3_firstWrong_52 : decode cX3_firstWrong 52 = .ok (.iaload, 1) := by decide +kernel
theorem dX3_firstWrong_53 : decode cX3_firstWrong 53 = .ok (.ifCond .eq 10, 3) := by decide +kernel
theorem dX3_firstWrong_56 : decode cX3_firstWrong 56 = .ok (.aload_n 0, 1) := by decide +kernel
theorem dX3_firstWrong_57 : decode cX3_firstWrong 57 = .ok (.getfield 18, 3) := by decide +kernel
theorem dX3_firstWrong_60 : decode cX3_firstWrong 60 = .ok (.goto 4, 3) := by decide +kernel
theorem dX3_firstWrong_63 : decode cX3_firstWrong 63 = .ok (.iconst (-1), 1) := by decide +kernel
theorem dX3_firstWrong_64 : decode cX3_firstWrong 64 = .ok (.ireturn, 1) := by decide +kernel
set_option maxRecDepth 20000 in
theorem ggX3_mostAlike_X3_alike : GoodIn wsX3_mostAlike wsX3_alike := goodIn_r _ [11, 1, 2, 12, 13, 14] (by decide +kernel) (by decide +kernel)
set_option maxRecDepth 20000 in
theorem gX3_mostAlike_X3_alike : GoodIn wsX3_mostAlike (wsV RX3 41 RX3 yX3_alike wsX3_alike) := goodIn_app (goodIn_of _ (by decide +kernel)) ggX3_mostAlike_X3_alike
theorem dX3_mostAlike_0 : decode cX3_mostAlike 0 = .ok (.iconst 0, 1) := by decide +kernel
theorem dX3_mostAlike_1 : decode cX3_mostAlike 1 = .ok (.istore_n 1, 1) := by decide +kernel
theorem dX3_mostAlike_2 : decode cX3_mostAlike 2 = .ok (.iconst 0, 1) := by decide +kernel
theorem dX3_mostAlike_3 : decode cX3_mostAlike 3 = .ok (.istore_n 2, 1) := by decide +kernel
theorem dX3_mostAlike_4 : decode cX3_mostAlike 4 = .ok (.iload_n 2, 1) := by decide +kernel
theorem dX3_mostAlike_5 : decode cX3_mostAlike 5 = .ok (.aload_n 0, 1) := by decide +kernel
theorem dX3_mostAlike_6 : decode cX3_mostAlike 6 = .ok (.getfield 18, 3) := by decide +kernel
theorem dX3_mostAlike_9 : decode cX3_mostAlike 9 = .ok (.if_icmp .ge 24, 3) := by decide +kernel
theorem dX3_mostAlike_12 : decode cX3_mostAlike 12 = .ok (.iload_n 1, 1) := by decide +kernel
theorem dX3_mostAlike_13 : decode cX3_mostAlike 13 = .ok (.aload_n 0, 1) := by decide +kernel
theorem dX3_mostAlike_14 : decode cX3_mostAlike 14 = .ok (.aload_n 0, 1) := by decide +kernel
theorem dX3_mostAlike_15 : decode cX3_mostAlike 15 = .ok (.getfield 15, 3) := by decide +kernel
theorem dX3_mostAlike_18 : decode cX3_mostAlike 18 = .ok (.iload_n 2, 1) := by decide +kernel
theorem dX3_mostAlike_19 : decode cX3_mostAlike 19 = .ok (.iaload, 1) := by decide +kernel
theorem dX3_mostAlike_20 : decode cX3_mostAlike 20 = .ok (.invokevirtual 41, 3) := by decide +kernel
theorem dX3_mostAlike_23 : decode cX3_mostAlike 23 = .ok (.invokestatic 44, 3) := by decide +kernel
theorem dX3_mostAlike_26 : decode cX3_mostAlike 26 = .ok (.istore_n 1, 1) := by decide +kernel
theorem dX3_mostAlike_27 : decode cX3_mostAlike 27 = .ok (.iinc 2 1, 3) := by decide +kernel
theorem dX3_mostAlike_30 : decode cX3_mostAlike 30 = .ok (.goto (-26), 3) := by decide +kernel
theorem dX3_mostAlike_33 : decode cX3_mostAlike 33 = .ok (.iload_n 1, 1) := by decide +kernel
theorem dX3_mostAlike_34 : decode cX3_mostAlike 34 = .ok (.ireturn, 1) := by decide +kernel
theorem dX3_alike_0 : decode cX3_alike 0 = .ok (.iconst 0, 1) := by decide +kernel
theorem dX3_alike_1 : decode cX3_alike 1 = .ok (.istore_n 2, 1) := by decide +kernel
theorem dX3_alike_2 : decode cX3_alike 2 = .ok (.iconst 0, 1) := by decide +kernel
theorem dX3_alike_3 : decode cX3_alike 3 = .ok (.istore_n 3, 1) := by decide +kernel
theorem dX3_alike_4 : decode cX3_alike 4 = .ok (.iload_n 3, 1) := by decide +kernel
theorem dX3_alike_5 : decode cX3_alike 5 = .ok (.aload_n 0, 1) := by decide +kernel
theorem dX3_alike_6 : decode cX3_alike 6 = .ok (.getfield 18, 3) := by decide +kernel
theorem dX3_alike_9 : decode cX3_alike 9 = .ok (.if_icmp .ge 22, 3) := by decide +kernel
theorem dX3_alike_12 : decode cX3_alike 12 = .ok (.aload_n 0, 1) := by decide +kernel
theorem dX3_alike_13 : decode cX3_alike 13 = .ok (.getfield 15, 3) := by decide +kernel
theorem dX3_alike_16 : decode cX3_alike 16 = .ok (.iload_n 3, 1) := by decide +kernel
theorem dX3_alike_17 : decode cX3_alike 17 = .ok (.iaload, 1) := by decide +kernel
theorem dX3_alike_18 : decode cX3_alike 18 = .ok (.iload_n 1, 1) := by decide +kernel
theorem dX3_alike_19 : decode cX3_alike 19 = .ok (.if_icmp .ne 6, 3) := by decide +kernel
theorem dX3_alike_22 : decode cX3_alike 22 = .ok (.iinc 2 1, 3) := by decide +kernel
theorem dX3_alike_25 : decode cX3_alike 25 = .ok (.iinc 3 1, 3) := by decide +kernel
theorem dX3_alike_28 : decode cX3_alike 28 = .ok (.goto (-24), 3) := by decide +kernel
theorem dX3_alike_31 : decode cX3_alike 31 = .ok (.iload_n 2, 1) := by decide +kernel
theorem dX3_alike_32 : decode cX3_alike 32 = .ok (.ireturn, 1) := by decide +kernel
set_option maxRecDepth 20000 in
theorem ggX3_moves_J6_bitCount_0f7a4 : GoodIn wsX3_moves wsJ6_bitCount_0f7a4 := goodIn_r _ [6, 7, 8, 9] (by decide +kernel) (by decide +kernel)
set_option maxRecDepth 20000 in
theorem gX3_moves_J6_bitCount_0f7a4 : GoodIn wsX3_moves (va_wsS RX3 49 yJ6_bitCount_0f7a4 wsJ6_bitCount_0f7a4) := goodIn_app (goodIn_of _ (by decide +kernel)) ggX3_moves_J6_bitCount_0f7a4
theorem dX3_moves_0 : decode cX3_moves 0 = .ok (.iconst 0, 1) := by decide +kernel
theorem dX3_moves_1 : decode cX3_moves 1 = .ok (.istore_n 1, 1) := by decide +kernel
theorem dX3_moves_2 : decode cX3_moves 2 = .ok (.iconst 0, 1) := by decide +kernel
theorem dX3_moves_3 : decode cX3_moves 3 = .ok (.istore_n 2, 1) := by decide +kernel
theorem dX3_moves_4 : decode cX3_moves 4 = .ok (.iload_n 2, 1) := by decide +kernel
theorem dX3_moves_5 : decode cX3_moves 5 = .ok (.aload_n 0, 1) := by decide +kernel
theorem dX3_moves_6 : decode cX3_moves 6 = .ok (.getfield 18, 3) := by decide +kernel
theorem dX3_moves_9 : decode cX3_moves 9 = .ok (.if_icmp .ge 21, 3) := by decide +kernel
theorem dX3_moves_12 : decode cX3_moves 12 = .ok (.iload_n 1, 1) := by decide +kernel
theorem dX3_moves_13 : decode cX3_moves 13 = .ok (.aload_n 0, 1) := by decide +kernel
theorem dX3_moves_14 : decode cX3_moves 14 = .ok (.getfield 9, 3) := by decide +kernel
theorem dX3_moves_17 : decode cX3_moves 17 = .ok (.iload_n 2, 1) := by decide +kernel
theorem dX3_moves_18 : decode cX3_moves 18 = .ok (.iaload, 1) := by decide +kernel
theorem dX3_moves_19 : decode cX3_moves 19 = .ok (.invokestatic 49, 3) := by decide +kernel
theorem dX3_moves_22 : decode cX3_moves 22 = .ok (.iadd, 1) := by decide +kernel
theorem dX3_moves_23 : decode cX3_moves 23 = .ok (.istore_n 1, 1) := by decide +kernel
theorem dX3_moves_24 : decode cX3_moves 24 = .ok (.iinc 2 1, 3) := by decide +kernel
theorem dX3_moves_27 : decode cX3_moves 27 = .ok (.goto (-23), 3) := by decide +kernel
theorem dX3_moves_30 : decode cX3_moves 30 = .ok (.iload_n 1, 1) := by decide +kernel
theorem dX3_moves_31 : decode cX3_moves 31 = .ok (.ireturn, 1) := by decide +kernel
set_option maxRecDepth 20000 in
theorem ggX4_init_J6_bitCount_0f7a4 : GoodIn wsX4_init wsJ6_bitCount_0f7a4 := goodIn_r _ [10, 11, 12, 13] (by decide +kernel) (by decide +kernel)
set_option maxRecDepth 20000 in
theorem gX4_init_J6_bitCount_0f7a4 : GoodIn wsX4_init (va_wsS RX4 18 yJ6_bitCount_0f7a4 wsJ6_bitCount_0f7a4) := goodIn_app (goodIn_of _ (by decide +kernel)) ggX4_init_J6_bitCount_0f7a4
theorem dX4_init_0 : decode cX4_init 0 = .ok (.aload_n 0, 1) := by decide +kernel
theorem dX4_init_1 : decode cX4_init 1 = .ok (.invokespecial 3, 3) := by decide +kernel
theorem dX4_init_4 : decode cX4_init 4 = .ok (.aload_n 0, 1) := by decide +kernel
theorem dX4_init_5 : decode cX4_init 5 = .ok (.bipush 64, 2) := by decide +kernel
theorem dX4_init_7 : decode cX4_init 7 = .ok (.newarray .int, 2) := by decide +kernel
theorem dX4_init_9 : decode cX4_init 9 = .ok (.putfield 9, 3) := by decide +kernel
theorem dX4_init_12 : decode cX4_init 12 = .ok (.aload_n 0, 1) := by decide +kernel
theorem dX4_init_13 : decode cX4_init 13 = .ok (.bipush 64, 2) := by decide +kernel
theorem dX4_init_15 : decode cX4_init 15 = .ok (.newarray .int, 2) := by decide +kernel
theorem dX4_init_17 : decode cX4_init 17 = .ok (.putfield 15, 3) := by decide +kernel
theorem dX4_init_20 : decode cX4_init 20 = .ok (.iconst 0, 1) := by decide +kernel
theorem dX4_init_21 : decode cX4_init 21 = .ok (.istore_n 1, 1) := by decide +kernel
theorem dX4_init_22 : decode cX4_init 22 = .ok (.iload_n 1, 1) := by decide +kernel
theorem dX4_init_23 : decode cX4_init 23 = .ok (.bipush 64, 2) := by decide +kernel
theorem dX4_init_25 : decode cX4_init 25 = .ok (.if_icmp .ge 19, 3) := by decide +kernel
theorem dX4_init_28 : decode cX4_init 28 = .ok (.aload_n 0, 1) := by decide +kernel
theorem dX4_init_29 : decode cX4_init 29 = .ok (.getfield 9, 3) := by decide +kernel
theorem dX4_init_32 : decode cX4_init 32 = .ok (.iload_n 1, 1) := by decide +kernel
theorem dX4_init_33 : decode cX4_init 33 = .ok (.iload_n 1, 1) := by decide +kernel
theorem dX4_init_34 : decode cX4_init 34 = .ok (.invokestatic 18, 3) := by decide +kernel
theorem dX4_init_37 : decode cX4_init 37 = .ok (.iastore, 1) := by decide +kernel
theorem dX4_init_38 : decode cX4_init 38 = .ok (.iinc 1 1, 3) := by decide +kernel
theorem dX4_init_41 : decode cX4_init 41 = .ok (.goto (-19), 3) := by decide +kernel
theorem dX4_init_44 : decode cX4_init 44 = .ok (.return_, 1) := by decide +kernel
set_option maxRecDepth 20000 in
theorem ggX4_measure_X4_reachBack : GoodIn wsX4_measure wsX4_reachBack := goodIn_r _ [7, 1, 2, 8, 9, 10, 11, 12, 13, 14, 15, 16, 17, 18, 19, 20, 21, 22, 23, 24, 25, 26, 27, 28, 29, 30, 31, 32, 33, 34, 35, 36, 37, 38, 39, 40, 41, 42] (by decide +kernel) (by decide +kernel)
set_option maxRecDepth 20000 in
theorem gX4_measure_X4_reachBack : GoodIn wsX4_measure (wsV RX4 24 RX4 yX4_reachBack wsX4_reachBack) := goodIn_app (goodIn_of _ (by decide +kernel)) ggX4_measure_X4_reachBack
theorem dX4_measure_0 : decode cX4_measure 0 = .ok (.iconst 0, 1) := by decide +kernel
theorem dX4_measure_1 : decode cX4_measure 1 = .ok (.istore_n 2, 1) := by decide +kernel
theorem dX4_measure_2 : decode cX4_measure 2 = .ok (.iload_n 2, 1) := by decide +kernel
theorem dX4_measure_3 : decode cX4_measure 3 = .ok (.bipush 64, 2) := by decide +kernel
theorem dX4_measure_5 : decode cX4_measure 5 = .ok (.if_icmp .ge 16, 3) := by decide +kernel
theorem dX4_measure_8 : decode cX4_measure 8 = .ok (.aload_n 0, 1) := by decide +kernel
theorem dX4_measure_9 : decode cX4_measure 9 = .ok (.getfield 9, 3) := by decide +kernel
theorem dX4_measure_12 : decode cX4_measure 12 = .ok (.iload_n 2, 1) := by decide +kernel
theorem dX4_measure_13 : decode cX4_measure 13 = .ok (.iconst (-1), 1) := by decide +kernel
theorem dX4_measure_14 : decode cX4_measure 14 = .ok (.iastore, 1) := by decide +kernel
theorem dX4_measure_15 : decode cX4_measure 15 = .ok (.iinc 2 1, 3) := by decide +kernel
theorem dX4_measure_18 : decode cX4_measure 18 = .ok (.goto (-16), 3) := by decide +kernel
theorem dX4_measure_21 : decode cX4_measure 21 = .ok (.aload_n 0, 1) := by decide +kernel
theorem dX4_measure_22 : decode cX4_measure 22 = .ok (.getfield 9, 3) := by decide +kernel
theorem dX4_measure_25 : decode cX4_measure 25 = .ok (.iconst 0, 1) := by decide +kernel
theorem dX4_measure_26 : decode cX4_measure 26 = .ok (.iconst 0, 1) := by decide +kernel
theorem dX4_measure_27 : decode cX4_measure 27 = .ok (.iastore, 1) := by decide +kernel
theorem dX4_measure_28 : decode cX4_measure 28 = .ok (.aload_n 0, 1) := by decide +kernel
theorem dX4_measure_29 : decode cX4_measure 29 = .ok (.getfield 15, 3) := by decide +kernel
theorem dX4_measure_32 : decode cX4_measure 32 = .ok (.iconst 0, 1) := by decide +kernel
theorem dX4_measure_33 : decode cX4_measure 33 = .ok (.iconst 0, 1) := by decide +kernel
theorem dX4_measure_34 : decode cX4_measure 34 = .ok (.iastore, 1) := by decide +kernel
theorem dX4_measure_35 : decode cX4_measure 35 = .ok (.iconst 1, 1) := by decide +kernel
theorem dX4_measure_36 : decode cX4_measure 36 = .ok (.istore_n 2, 1) := by decide +kernel
theorem dX4_measure_37 : decode cX4_measure 37 = .ok (.iconst 0, 1) := by decide +kernel
theorem dX4_measure_38 : decode cX4_measure 38 = .ok (.istore_n 3, 1) := by decide +kernel
theorem dX4_measure_39 : decode cX4_measure 39 = .ok (.iload_n 3, 1) := by decide +kernel
theorem dX4_measure_40 : decode cX4_measure 40 = .ok (.iload_n 2, 1) := by decide +kernel
theorem dX4_measure_41 : decode cX4_measure 41 = .ok (.if_icmp .ge 28, 3) := by decide +kernel
theorem dX4_measure_44 : decode cX4_measure 44 = .ok (.iload_n 3, 1) := by decide +kernel
theorem dX4_measure_45 : decode cX4_measure 45 = .ok (.bipush 64, 2) := by decide +kernel
theorem dX4_measure_47 : decode cX4_measure 47 = .ok (.if_icmp .ge 22, 3) := by decide +kernel
theorem dX4_measure_50 : decode cX4_measure 50 = .ok (.aload_n 0, 1) := by decide +kernel
theorem dX4_measure_51 : decode cX4_measure 51 = .ok (.aload_n 1, 1) := by decide +kernel
theorem dX4_measure_52 : decode cX4_measure 52 = .ok (.aload_n 0, 1) := by decide +kernel
theorem dX4_measure_53 : decode cX4_measure 53 = .ok (.getfield 15, 3) := by decide +kernel
theorem dX4_measure_56 : decode cX4_measure 56 = .ok (.iload_n 3, 1) := by decide +kernel
theorem dX4_measure_57 : decode cX4_measure 57 = .ok (.iaload, 1) := by decide +kernel
theorem dX4_measure_58 : decode cX4_measure 58 = .ok (.iload_n 2, 1) := by decide +kernel
theorem dX4_measure_59 : decode cX4_measure 59 = .ok (.invokevirtual 24, 3) := by decide +kernel
theorem dX4_measure_62 : decode cX4_measure 62 = .ok (.istore_n 2, 1) := by decide +kernel
theorem dX4_measure_63 : decode cX4_measure 63 = .ok (.iinc 3 1, 3) := by decide +kernel
theorem dX4_measure_66 : decode cX4_measure 66 = .ok (.goto (-27), 3) := by decide +kernel
theorem dX4_measure_69 : decode cX4_measure 69 = .ok (.return_, 1) := by decide +kernel
set_option maxRecDepth 20000 in
theorem ggX4_reachBack_X1_allowMove : GoodIn wsX4_reachBack wsX1_allowMove := goodIn_r _ [7, 8, 9, 10, 11, 12, 13, 6, 14, 15, 16, 17, 18, 19, 20, 21, 22, 23, 24, 25, 26, 27, 28, 29, 30, 31, 32, 35, 36, 37] (by decide +kernel) (by decide +kernel)
set_option maxRecDepth 20000 in
theorem gX4_reachBack_X1_allowMove : GoodIn wsX4_reachBack (wsV RX4 28 RX1 yX1_allowMove wsX1_allowMove) := goodIn_app (goodIn_of _ (by decide +kernel)) ggX4_reachBack_X1_allowMove
theorem dX4_reachBack_0 : decode cX4_reachBack 0 = .ok (.iload_n 3, 1) := by decide +kernel
theorem dX4_reachBack_1 : decode cX4_reachBack 1 = .ok (.istore 4, 2) := by decide +kernel
theorem dX4_reachBack_3 : decode cX4_reachBack 3 = .ok (.iconst 0, 1) := by decide +kernel
theorem dX4_reachBack_4 : decode cX4_reachBack 4 = .ok (.istore 5, 2) := by decide +kernel
theorem dX4_reachBack_6 : decode cX4_reachBack 6 = .ok (.iload 5, 2) := by decide +kernel
theorem dX4_reachBack_8 : decode cX4_reachBack 8 = .ok (.bipush 6, 2) := by decide +kernel
theorem dX4_reachBack_10 : decode cX4_reachBack 10 = .ok (.if_icmp .ge 73, 3) := by decide +kernel
theorem dX4_reachBack_13 : decode cX4_reachBack 13 = .ok (.iload_n 2, 1) := by decide +kernel
theorem dX4_reachBack_14 : decode cX4_reachBack 14 = .ok (.iconst 1, 1) := by decide +kernel
theorem dX4_reachBack_15 : decode cX4_reachBack 15 = .ok (.iload 5, 2) := by decide +kernel
theorem dX4_reachBack_17 : decode cX4_reachBack 17 = .ok (.ishl, 1) := by decide +kernel
theorem dX4_reachBack_18 : decode cX4_reachBack 18 = .ok (.ixor, 1) := by decide +kernel
theorem dX4_reachBack_19 : decode cX4_reachBack 19 = .ok (.istore 6, 2) := by decide +kernel
theorem dX4_reachBack_21 : decode cX4_reachBack 21 = .ok (.aload_n 0, 1) := by decide +kernel
theorem dX4_reachBack_22 : decode cX4_reachBack 22 = .ok (.getfield 9, 3) := by decide +kernel
theorem dX4_reachBack_25 : decode cX4_reachBack 25 = .ok (.iload 6, 2) := by decide +kernel
theorem dX4_reachBack_27 : decode cX4_reachBack 27 = .ok (.iaload, 1) := by decide +kernel
theorem dX4_reachBack_28 : decode cX4_reachBack 28 = .ok (.iconst (-1), 1) := by decide +kernel
theorem dX4_reachBack_29 : decode cX4_reachBack 29 = .ok (.if_icmp .ne 48, 3) := by decide +kernel
theorem dX4_reachBack_32 : decode cX4_reachBack 32 = .ok (.aload_n 1, 1) := by decide +kernel
theorem dX4_reachBack_33 : decode cX4_reachBack 33 = .ok (.iload 6, 2) := by decide +kernel
theorem dX4_reachBack_35 : decode cX4_reachBack 35 = .ok (.iload 5, 2) := by decide +kernel
theorem dX4_reachBack_37 : decode cX4_reachBack 37 = .ok (.invokevirtual 28, 3) := by decide +kernel
theorem dX4_reachBack_40 : decode cX4_reachBack 40 = .ok (.ifCond .eq 37, 3) := by decide +kernel
theorem dX4_reachBack_43 : decode cX4_reachBack 43 = .ok (.iload 4, 2) := by decide +kernel
theorem dX4_reachBack_45 : decode cX4_reachBack 45 = .ok (.bipush 64, 2) := by decide +kernel
theorem dX4_reachBack_47 : decode cX4_reachBack 47 = .ok (.if_icmp .ge 30, 3) := by decide +kernel
theorem dX4_reachBack_50 : decode cX4_reachBack 50 = .ok (.aload_n 0, 1) := by decide +kernel
theorem dX4_reachBack_51 : decode cX4_reachBack 51 = .ok (.getfield 9, 3) := by decide +kernel
theorem dX4_reachBack_54 : decode cX4_reachBack 54 = .ok (.iload 6, 2) := by decide +kernel
theorem dX4_reachBack_56 : decode cX4_reachBack 56 = .ok (.aload_n 0, 1) := by decide +kernel
theorem dX4_reachBack_57 : decode cX4_reachBack 57 = .ok (.getfield 9, 3) := by decide +kernel
theorem dX4_reachBack_60 : decode cX4_reachBack 60 = .ok (.iload_n 2, 1) := by decide +kernel
theorem dX4_reachBack_61 : decode cX4_reachBack 61 = .ok (.iaload, 1) := by decide +kernel
theorem dX4_reachBack_62 : decode cX4_reachBack 62 = .ok (.iconst 1, 1) := by decide +kernel
theorem dX4_reachBack_63 : decode cX4_reachBack 63 = .ok (.iadd, 1) := by decide +kernel
theorem dX4_reachBack_64 : decode cX4_reachBack 64 = .ok (.iastore, 1) := by decide +kernel
theorem dX4_reachBack_65 : decode cX4_reachBack 65 = .ok (.aload_n 0, 1) := by decide +kernel
theorem dX4_reachBack_66 : decode cX4_reachBack 66 = .ok (.getfield 15, 3) := by decide +kernel
theorem dX4_reachBack_69 : decode cX4_reachBack 69 = .ok (.iload 4, 2) := by decide +kernel
theorem dX4_reachBack_71 : decode cX4_reachBack 71 = .ok (.iload 6, 2) := by decide +kernel
theorem dX4_reachBack_73 : decode cX4_reachBack 73 = .ok (.iastore, 1) := by decide +kernel
theorem dX4_reachBack_74 : decode cX4_reachBack 74 = .ok (.iinc 4 1, 3) := by decide +kernel
theorem dX4_reachBack_77 : decode cX4_reachBack 77 = .ok (.iinc 5 1, 3) := by decide +kernel
theorem dX4_reachBack_80 : decode cX4_reachBack 80 = .ok (.goto (-74), 3) := by decide +kernel
theorem dX4_reachBack_83 : decode cX4_reachBack 83 = .ok (.iload 4, 2) := by decide +kernel
theorem dX4_reachBack_85 : decode cX4_reachBack 85 = .ok (.ireturn, 1) := by decide +kernel
set_option maxRecDepth 20000 in
theorem ggX4_length_X5_isState : GoodIn wsX4_length wsX5_isState := goodIn_r _ [4, 5, 6, 3, 7] (by decide +kernel) (by decide +kernel)
set_option maxRecDepth 20000 in
theorem gX4_length_X5_isState_n34 : GoodIn wsX4_length (wsX5_isState) := ggX4_length_X5_isState
theorem dX4_length_0 : decode cX4_length 0 = .ok (.iload_n 1, 1) := by decide +kernel
theorem dX4_length_1 : decode cX4_length 1 = .ok (.invokestatic 34, 3) := by decide +kernel
theorem dX4_length_4 : decode cX4_length 4 = .ok (.ifCond .eq 12, 3) := by decide +kernel
theorem dX4_length_7 : decode cX4_length 7 = .ok (.aload_n 0, 1) := by decide +kernel
theorem dX4_length_8 : decode cX4_length 8 = .ok (.getfield 9, 3) := by decide +kernel
theorem dX4_length_11 : decode cX4_length 11 = .ok (.iload_n 1, 1) := by decide +kernel
theorem dX4_length_12 : decode cX4_length 12 = .ok (.iaload, 1) := by decide +kernel
theorem dX4_length_13 : decode cX4_length 13 = .ok (.goto 4, 3) := by decide +kernel
theorem dX4_length_16 : decode cX4_length 16 = .ok (.iconst (-1), 1) := by decide +kernel
theorem dX4_length_17 : decode cX4_length 17 = .ok (.ireturn, 1) := by decide +kernel
set_option maxRecDepth 20000 in
theorem ggX4_move_X4_length : GoodIn wsX4_move wsX4_length := goodIn_r _ [5, 6, 7, 8, 9, 10, 11, 12, 46, 47] (by decide +kernel) (by decide +kernel)
set_option maxRecDepth 20000 in
theorem gX4_move_X4_length : GoodIn wsX4_move (wsV RX4 38 RX4 yX4_length wsX4_length) := goodIn_app (goodIn_of _ (by decide +kernel)) ggX4_move_X4_length
set_option maxRecDepth 20000 in
theorem ggX4_move_X4_nextCylinder : GoodIn wsX4_move wsX4_nextCylinder := goodIn_r _ [16, 1, 2, 3, 4, 5, 6, 7, 8, 9, 10, 11, 12, 17, 18, 19, 20, 21, 22, 23, 24, 25, 26, 27, 28, 29, 30, 31, 32, 33, 34, 35, 36, 37, 38, 39, 40, 41, 42, 43, 44, 45, 46, 47, 48, 49, 50] (by decide +kernel) (by decide +kernel)
set_option maxRecDepth 20000 in
theorem gX4_move_X4_nextCylinder : GoodIn wsX4_move (wsV RX4 41 RX4 yX4_nextCylinder wsX4_nextCylinder) := goodIn_app (goodIn_of _ (by decide +kernel)) ggX4_move_X4_nextCylinder
set_option maxRecDepth 20000 in
theorem ggX4_move_X5_has : GoodIn wsX4_move wsX5_has := goodIn_r _ [43] (by decide +kernel) (by decide +kernel)
set_option maxRecDepth 20000 in
theorem gX4_move_X5_has_n45 : GoodIn wsX4_move (wsX5_has) := ggX4_move_X5_has
theorem dX4_move_0 : decode cX4_move 0 = .ok (.iload_n 3, 1) := by decide +kernel
theorem dX4_move_1 : decode cX4_move 1 = .ok (.aload_n 0, 1) := by decide +kernel
theorem dX4_move_2 : decode cX4_move 2 = .ok (.iload_n 2, 1) := by decide +kernel
theorem dX4_move_3 : decode cX4_move 3 = .ok (.invokevirtual 38, 3) := by decide +kernel
theorem dX4_move_6 : decode cX4_move 6 = .ok (.if_icmp .lt 5, 3) := by decide +kernel
theorem dX4_move_9 : decode cX4_move 9 = .ok (.iconst (-1), 1) := by decide +kernel
theorem dX4_move_10 : decode cX4_move 10 = .ok (.ireturn, 1) := by decide +kernel
theorem dX4_move_11 : decode cX4_move 11 = .ok (.iload_n 2, 1) := by decide +kernel
theorem dX4_move_12 : decode cX4_move 12 = .ok (.istore 4, 2) := by decide +kernel
theorem dX4_move_14 : decode cX4_move 14 = .ok (.iconst 0, 1) := by decide +kernel
theorem dX4_move_15 : decode cX4_move 15 = .ok (.istore 5, 2) := by decide +kernel
theorem dX4_move_17 : decode cX4_move 17 = .ok (.iload 5, 2) := by decide +kernel
theorem dX4_move_19 : decode cX4_move 19 = .ok (.iload_n 3, 1) := by decide +kernel
theorem dX4_move_20 : decode cX4_move 20 = .ok (.if_icmp .ge 23, 3) := by decide +kernel
theorem dX4_move_23 : decode cX4_move 23 = .ok (.iload 4, 2) := by decide +kernel
theorem dX4_move_25 : decode cX4_move 25 = .ok (.iconst 1, 1) := by decide +kernel
theorem dX4_move_26 : decode cX4_move 26 = .ok (.aload_n 0, 1) := by decide +kernel
theorem dX4_move_27 : decode cX4_move 27 = .ok (.aload_n 1, 1) := by decide +kernel
theorem dX4_move_28 : decode cX4_move 28 = .ok (.iload 4, 2) := by decide +kernel
theorem dX4_move_30 : decode cX4_move 30 = .ok (.invokevirtual 41, 3) := by decide +kernel
theorem dX4_move_33 : decode cX4_move 33 = .ok (.ishl, 1) := by decide +kernel
theorem dX4_move_34 : decode cX4_move 34 = .ok (.ixor, 1) := by decide +kernel
theorem dX4_move_35 : decode cX4_move 35 = .ok (.istore 4, 2) := by decide +kernel
theorem dX4_move_37 : decode cX4_move 37 = .ok (.iinc 5 1, 3) := by decide +kernel
theorem dX4_move_40 : decode cX4_move 40 = .ok (.goto (-23), 3) := by decide +kernel
theorem dX4_move_43 : decode cX4_move 43 = .ok (.aload_n 0, 1) := by decide +kernel
theorem dX4_move_44 : decode cX4_move 44 = .ok (.aload_n 1, 1) := by decide +kernel
theorem dX4_move_45 : decode cX4_move 45 = .ok (.iload 4, 2) := by decide +kernel
theorem dX4_move_47 : decode cX4_move 47 = .ok (.invokevirtual 41, 3) := by decide +kernel
theorem dX4_move_50 : decode cX4_move 50 = .ok (.istore 5, 2) := by decide +kernel
theorem dX4_move_52 : decode cX4_move 52 = .ok (.iload 4, 2) := by decide +kernel
theorem dX4_move_54 : decode cX4_move 54 = .ok (.iload 5, 2) := by decide +kernel
theorem dX4_move_56 : decode cX4_move 56 = .ok (.invokestatic 45, 3) := by decide +kernel
theorem dX4_move_59 : decode cX4_move 59 = .ok (.ifCond .eq 8, 3) := by decide +kernel
theorem dX4_move_62 : decode cX4_move 62 = .ok (.iload 5, 2) := by decide +kernel
theorem dX4_move_64 : decode cX4_move 64 = .ok (.goto 8, 3) := by decide +kernel
theorem dX4_move_67 : decode cX4_move 67 = .ok (.iload 5, 2) := by decide +kernel
theorem dX4_move_69 : decode cX4_move 69 = .ok (.bipush 10, 2) := by decide +kernel
theorem dX4_move_71 : decode cX4_move 71 = .ok (.iadd, 1) := by decide +kernel
theorem dX4_move_72 : decode cX4_move 72 = .ok (.ireturn, 1) := by decide +kernel
set_option maxRecDepth 20000 in
theorem ggX4_nextCylinder_X4_length : GoodIn wsX4_nextCylinder wsX4_length := goodIn_r _ [5, 6, 7, 8, 9, 10, 11, 12, 42, 43] (by decide +kernel) (by decide +kernel)
set_option maxRecDepth 20000 in
theorem gX4_nextCylinder_X4_length : GoodIn wsX4_nextCylinder (wsV RX4 38 RX4 yX4_length wsX4_length) := goodIn_app (goodIn_of _ (by decide +kernel)) ggX4_nextCylinder_X4_length
set_option maxRecDepth 20000 in
theorem ggX4_nextCylinder_X1_allowMove : GoodIn wsX4_nextCylinder wsX1_allowMove := goodIn_r _ [17, 18, 8, 19, 20, 21, 22, 16, 23, 24, 25, 26, 27, 28, 29, 30, 31, 32, 33, 34, 35, 36, 37, 38, 39, 40, 41, 44, 45, 46] (by decide +kernel) (by decide +kernel)
set_option maxRecDepth 20000 in
theorem gX4_nextCylinder_X1_allowMove : GoodIn wsX4_nextCylinder (wsV RX4 28 RX1 yX1_allowMove wsX1_allowMove) := goodIn_app (goodIn_of _ (by decide +kernel)) ggX4_nextCylinder_X1_allowMove
theorem dX4_nextCylinder_0 : decode cX4_nextCylinder 0 = .ok (.aload_n 0, 1) := by decide +kernel
theorem dX4_nextCylinder_1 : decode cX4_nextCylinder 1 = .ok (.iload_n 2, 1) := by decide +kernel
theorem dX4_nextCylinder_2 : decode cX4_nextCylinder 2 = .ok (.invokevirtual 38, 3) := by decide +kernel
theorem dX4_nextCylinder_5 : decode cX4_nextCylinder 5 = .ok (.istore_n 3, 1) := by decide +kernel
theorem dX4_nextCylinder_6 : decode cX4_nextCylinder 6 = .ok (.iconst 0, 1) := by decide +kernel
theorem dX4_nextCylinder_7 : decode cX4_nextCylinder 7 = .ok (.istore 4, 2) := by decide +kernel
theorem dX4_nextCylinder_9 : decode cX4_nextCylinder 9 = .ok (.iload 4, 2) := by decide +kernel
theorem dX4_nextCylinder_11 : decode cX4_nextCylinder 11 = .ok (.bipush 6, 2) := by decide +kernel
theorem dX4_nextCylinder_13 : decode cX4_nextCylinder 13 = .ok (.if_icmp .ge 38, 3) := by decide +kernel
theorem dX4_nextCylinder_16 : decode cX4_nextCylinder 16 = .ok (.aload_n 0, 1) := by decide +kernel
theorem dX4_nextCylinder_17 : decode cX4_nextCylinder 17 = .ok (.iload_n 2, 1) := by decide +kernel
theorem dX4_nextCylinder_18 : decode cX4_nextCylinder 18 = .ok (.iconst 1, 1) := by decide +kernel
theorem dX4_nextCylinder_19 : decode cX4_nextCylinder 19 = .ok (.iload 4, 2) := by decide +kernel
theorem dX4_nextCylinder_21 : decode cX4_nextCylinder 21 = .ok (.ishl, 1) := by decide +kernel
theorem dX4_nextCylinder_22 : decode cX4_nextCylinder 22 = .ok (.ixor, 1) := by decide +kernel
theorem dX4_nextCylinder_23 : decode cX4_nextCylinder 23 = .ok (.invokevirtual 38, 3) := by decide +kernel
theorem dX4_nextCylinder_26 : decode cX4_nextCylinder 26 = .ok (.iload_n 3, 1) := by decide +kernel
theorem dX4_nextCylinder_27 : decode cX4_nextCylinder 27 = .ok (.iconst 1, 1) := by decide +kernel
theorem dX4_nextCylinder_28 : decode cX4_nextCylinder 28 = .ok (.isub, 1) := by decide +kernel
theorem dX4_nextCylinder_29 : decode cX4_nextCylinder 29 = .ok (.if_icmp .ne 16, 3) := by decide +kernel
theorem dX4_nextCylinder_32 : decode cX4_nextCylinder 32 = .ok (.aload_n 1, 1) := by decide +kernel
theorem dX4_nextCylinder_33 : decode cX4_nextCylinder 33 = .ok (.iload_n 2, 1) := by decide +kernel
theorem dX4_nextCylinder_34 : decode cX4_nextCylinder 34 = .ok (.iload 4, 2) := by decide +kernel
theorem dX4_nextCylinder_36 : decode cX4_nextCylinder 36 = .ok (.invokevirtual 28, 3) := by decide +kernel
theorem dX4_nextCylinder_39 : decode cX4_nextCylinder 39 = .ok (.ifCond .eq 6, 3) := by decide +kernel
theorem dX4_nextCylinder_42 : decode cX4_nextCylinder 42 = .ok (.iload 4, 2) := by decide +kernel
theorem dX4_nextCylinder_44 : decode cX4_nextCylinder 44 = .ok (.ireturn, 1) := by decide +kernel
theorem dX4_nextCylinder_45 : decode cX4_nextCylinder 45 = .ok (.iinc 4 1, 3) := by decide +kernel
theorem dX4_nextCylinder_48 : decode cX4_nextCylinder 48 = .ok (.goto (-39), 3) := by decide +kernel
theorem dX4_nextCylinder_51 : decode cX4_nextCylinder 51 = .ok (.iconst 0, 1) := by decide +kernel
theorem dX4_nextCylinder_52 : decode cX4_nextCylinder 52 = .ok (.ireturn, 1) := by decide +kernel
set_option maxRecDepth 20000 in
theorem ggX5_init_X3_init : GoodIn wsX5_init wsX3_init := goodIn_r _ [25, 26, 2, 3, 27, 28, 29, 30, 62, 63, 64] (by decide +kernel) (by decide +kernel)
set_option maxRecDepth 20000 in
theorem gX5_init_X3_init_n9 : GoodIn wsX5_init (wsX3_init) := ggX5_init_X3_init
set_option maxRecDepth 20000 in
theorem ggX5_init_X0_init : GoodIn wsX5_init wsX0_init := goodIn_r _ [32, 33, 2, 3, 27, 34, 35, 36, 70, 71, 72] (by decide +kernel) (by decide +kernel)
set_option maxRecDepth 20000 in
theorem gX5_init_X0_init_n18 : GoodIn wsX5_init (wsX0_init) := ggX5_init_X0_init
set_option maxRecDepth 20000 in
theorem ggX5_init_X1_init : GoodIn wsX5_init wsX1_init := goodIn_r _ [38, 39, 2, 3, 27, 40, 41, 42, 73, 74, 75] (by decide +kernel) (by decide +kernel)
set_option maxRecDepth 20000 in
theorem gX5_init_X1_init_n25 : GoodIn wsX5_init (wsX1_init) := ggX5_init_X1_init
set_option maxRecDepth 20000 in
theorem ggX5_init_X4_init : GoodIn wsX5_init wsX4_init := goodIn_r _ [45, 46, 2, 3, 27, 47, 48, 49, 50, 51, 52, 53, 54, 55, 76, 77] (by decide +kernel) (by decide +kernel)
set_option maxRecDepth 20000 in
theorem gX5_init_X4_init : GoodIn wsX5_init (wsX4_init) := ggX5_init_X4_init
set_option maxRecDepth 20000 in
theorem ggX5_init_X2_init : GoodIn wsX5_init wsX2_init := goodIn_r _ [58, 59, 2, 3, 27, 60, 61, 78, 79] (by decide +kernel) (by decide +kernel)
set_option maxRecDepth 20000 in
theorem gX5_init_X2_init : GoodIn wsX5_init (wsX2_init) := ggX5_init_X2_init
theorem dX5_init_0 : decode cX5_init 0 = .ok (.aload_n 0, 1) := by decide +kernel
theorem dX5_init_1 : decode cX5_init 1 = .ok (.invokespecial 1, 3) := by decide +kernel
theorem dX5_init_4 : decode cX5_init 4 = .ok (.aload_n 0, 1) := by decide +kernel
theorem dX5_init_5 : decode cX5_init 5 = .ok (.new 7, 3) := by decide +kernel
theorem dX5_init_8 : decode cX5_init 8 = .ok (.dup, 1) := by decide +kernel
theorem dX5_init_9 : decode cX5_init 9 = .ok (.invokespecial 9, 3) := by decide +kernel
theorem dX5_init_12 : decode cX5_init 12 = .ok (.putfield 10, 3) := by decide +kernel
theorem dX5_init_15 : decode cX5_init 15 = .ok (.aload_n 0, 1) := by decide +kernel
theorem dX5_init_16 : decode cX5_init 16 = .ok (.new 16, 3) := by decide +kernel
theorem dX5_init_19 : decode cX5_init 19 = .ok (.dup, 1) := by decide +kernel
theorem dX5_init_20 : decode cX5_init 20 = .ok (.invokespecial 18, 3) := by decide +kernel
theorem dX5_init_23 : decode cX5_init 23 = .ok (.putfield 19, 3) := by decide +kernel
theorem dX5_init_26 : decode cX5_init 26 = .ok (.aload_n 0, 1) := by decide +kernel
theorem dX5_init_27 : decode cX5_init 27 = .ok (.new 23, 3) := by decide +kernel
theorem dX5_init_30 : decode cX5_init 30 = .ok (.dup, 1) := by decide +kernel
theorem dX5_init_31 : decode cX5_init 31 = .ok (.invokespecial 25, 3) := by decide +kernel
theorem dX5_init_34 : decode cX5_init 34 = .ok (.putfield 26, 3) := by decide +kernel
theorem dX5_init_37 : decode cX5_init 37 = .ok (.aload_n 0, 1) := by decide +kernel
theorem dX5_init_38 : decode cX5_init 38 = .ok (.new 30, 3) := by decide +kernel
theorem dX5_init_41 : decode cX5_init 41 = .ok (.dup, 1) := by decide +kernel
theorem dX5_init_42 : decode cX5_init 42 = .ok (.invokespecial 32, 3) := by decide +kernel
theorem dX5_init_45 : decode cX5_init 45 = .ok (.putfield 33, 3) := by decide +kernel
theorem dX5_init_48 : decode cX5_init 48 = .ok (.aload_n 0, 1) := by decide +kernel
theorem dX5_init_49 : decode cX5_init 49 = .ok (.new 37, 3) := by decide +kernel
theorem dX5_init_52 : decode cX5_init 52 = .ok (.dup, 1) := by decide +kernel
theorem dX5_init_53 : decode cX5_init 53 = .ok (.invokespecial 39, 3) := by decide +kernel
theorem dX5_init_56 : decode cX5_init 56 = .ok (.putfield 40, 3) := by decide +kernel
theorem dX5_init_59 : decode cX5_init 59 = .ok (.return_, 1) := by decide +kernel
set_option maxRecDepth 20000 in
theorem ggX5_step_X5_isState : GoodIn wsX5_step wsX5_isState := goodIn_r _ [5, 6, 7, 4, 8] (by decide +kernel) (by decide +kernel)
set_option maxRecDepth 20000 in
theorem gX5_step_X5_isState : GoodIn wsX5_step (va_wsS RX5 44 yX5_isState wsX5_isState) := goodIn_app (goodIn_of _ (by decide +kernel)) ggX5_step_X5_isState
set_option maxRecDepth 20000 in
theorem ggX5_step_X3_size : GoodIn wsX5_step wsX3_size := goodIn_r _ [13, 14, 28, 29, 30] (by decide +kernel) (by decide +kernel)
set_option maxRecDepth 20000 in
theorem gX5_step_X3_size : GoodIn wsX5_step (wsV RX5 48 RX3 yX3_size wsX3_size) := goodIn_app (goodIn_of _ (by decide +kernel)) ggX5_step_X3_size
set_option maxRecDepth 20000 in
theorem ggX5_step_X3_add : GoodIn wsX5_step wsX3_add := goodIn_r _ [18, 14, 19, 20, 21, 4, 22, 28, 29, 30] (by decide +kernel) (by decide +kernel)
set_option maxRecDepth 20000 in
theorem gX5_step_X3_add : GoodIn wsX5_step (wsV RX5 52 RX3 yX3_add wsX3_add) := goodIn_app (goodIn_of _ (by decide +kernel)) ggX5_step_X3_add
theorem dX5_step_0 : decode cX5_step 0 = .ok (.iload_n 1, 1) := by decide +kernel
theorem dX5_step_1 : decode cX5_step 1 = .ok (.invokestatic 44, 3) := by decide +kernel
theorem dX5_step_4 : decode cX5_step 4 = .ok (.ifCond .eq 10, 3) := by decide +kernel
theorem dX5_step_7 : decode cX5_step 7 = .ok (.iload_n 2, 1) := by decide +kernel
theorem dX5_step_8 : decode cX5_step 8 = .ok (.invokestatic 44, 3) := by decide +kernel
theorem dX5_step_11 : decode cX5_step 11 = .ok (.ifCond .ne 6, 3) := by decide +kernel
theorem dX5_step_14 : decode cX5_step 14 = .ok (.bipush (-2), 2) := by decide +kernel
theorem dX5_step_16 : decode cX5_step 16 = .ok (.ireturn, 1) := by decide +kernel
theorem dX5_step_17 : decode cX5_step 17 = .ok (.iload_n 1, 1) := by decide +kernel
theorem dX5_step_18 : decode cX5_step 18 = .ok (.iload_n 2, 1) := by decide +kernel
theorem dX5_step_19 : decode cX5_step 19 = .ok (.ior, 1) := by decide +kernel
theorem dX5_step_20 : decode cX5_step 20 = .ok (.ifCond .eq 9, 3) := by decide +kernel
theorem dX5_step_23 : decode cX5_step 23 = .ok (.iload_n 1, 1) := by decide +kernel
theorem dX5_step_24 : decode cX5_step 24 = .ok (.iload_n 2, 1) := by decide +kernel
theorem dX5_step_25 : decode cX5_step 25 = .ok (.iand, 1) := by decide +kernel
theorem dX5_step_26 : decode cX5_step 26 = .ok (.ifCond .eq 6, 3) := by decide +kernel
theorem dX5_step_29 : decode cX5_step 29 = .ok (.bipush (-2), 2) := by decide +kernel
theorem dX5_step_31 : decode cX5_step 31 = .ok (.ireturn, 1) := by decide +kernel
theorem dX5_step_32 : decode cX5_step 32 = .ok (.aload_n 0, 1) := by decide +kernel
theorem dX5_step_33 : decode cX5_step 33 = .ok (.getfield 10, 3) := by decide +kernel
theorem dX5_step_36 : decode cX5_step 36 = .ok (.invokevirtual 48, 3) := by decide +kernel
theorem dX5_step_39 : decode cX5_step 39 = .ok (.bipush 16, 2) := by decide +kernel
theorem dX5_step_41 : decode cX5_step 41 = .ok (.if_icmp .lt 6, 3) := by decide +kernel
theorem dX5_step_44 : decode cX5_step 44 = .ok (.bipush (-4), 2) := by decide +kernel
theorem dX5_step_46 : decode cX5_step 46 = .ok (.ireturn, 1) := by decide +kernel
theorem dX5_step_47 : decode cX5_step 47 = .ok (.aload_n 0, 1) := by decide +kernel
theorem dX5_step_48 : decode cX5_step 48 = .ok (.getfield 10, 3) := by decide +kernel
theorem dX5_step_51 : decode cX5_step 51 = .ok (.iload_n 1, 1) := by decide +kernel
theorem dX5_step_52 : decode cX5_step 52 = .ok (.iload_n 2, 1) := by decide +kernel
theorem dX5_step_53 : decode cX5_step 53 = .ok (.invokevirtual 52, 3) := by decide +kernel
theorem dX5_step_56 : decode cX5_step 56 = .ok (.aload_n 0, 1) := by decide +kernel
theorem dX5_step_57 : decode cX5_step 57 = .ok (.getfield 10, 3) := by decide +kernel
theorem dX5_step_60 : decode cX5_step 60 = .ok (.invokevirtual 48, 3) := by decide +kernel
theorem dX5_step_63 : decode cX5_step 63 = .ok (.ireturn, 1) := by decide +kernel
set_option maxRecDepth 20000 in
theorem ggX5_drop_X3_size : GoodIn wsX5_drop wsX3_size := goodIn_r _ [6, 7, 17, 18, 19] (by decide +kernel) (by decide +kernel)
set_option maxRecDepth 20000 in
theorem gX5_drop_X3_size : GoodIn wsX5_drop (wsV RX5 48 RX3 yX3_size wsX3_size) := goodIn_app (goodIn_of _ (by decide +kernel)) ggX5_drop_X3_size
set_option maxRecDepth 20000 in
theorem ggX5_drop_X3_removeLast : GoodIn wsX5_drop wsX3_removeLast := goodIn_r _ [11, 7, 17, 18, 19] (by decide +kernel) (by decide +kernel)
set_option maxRecDepth 20000 in
theorem gX5_drop_X3_removeLast : GoodIn wsX5_drop (wsV RX5 56 RX3 yX3_removeLast wsX3_removeLast) := goodIn_app (goodIn_of _ (by decide +kernel)) ggX5_drop_X3_removeLast
theorem dX5_drop_0 : decode cX5_drop 0 = .ok (.aload_n 0, 1) := by decide +kernel
theorem dX5_drop_1 : decode cX5_drop 1 = .ok (.getfield 10, 3) := by decide +kernel
theorem dX5_drop_4 : decode cX5_drop 4 = .ok (.invokevirtual 48, 3) := by decide +kernel
theorem dX5_drop_7 : decode cX5_drop 7 = .ok (.ifCond .ne 6, 3) := by decide +kernel
theorem dX5_drop_10 : decode cX5_drop 10 = .ok (.bipush (-3), 2) := by decide +kernel
theorem dX5_drop_12 : decode cX5_drop 12 = .ok (.ireturn, 1) := by decide +kernel
theorem dX5_drop_13 : decode cX5_drop 13 = .ok (.aload_n 0, 1) := by decide +kernel
theorem dX5_drop_14 : decode cX5_drop 14 = .ok (.getfield 10, 3) := by decide +kernel
theorem dX5_drop_17 : decode cX5_drop 17 = .ok (.invokevirtual 56, 3) := by decide +kernel
theorem dX5_drop_20 : decode cX5_drop 20 = .ok (.aload_n 0, 1) := by decide +kernel
theorem dX5_drop_21 : decode cX5_drop 21 = .ok (.getfield 10, 3) := by decide +kernel
theorem dX5_drop_24 : decode cX5_drop 24 = .ok (.invokevirtual 48, 3) := by decide +kernel
theorem dX5_drop_27 : decode cX5_drop 27 = .ok (.ireturn, 1) := by decide +kernel
set_option maxRecDepth 20000 in
theorem ggX5_sound_X3_firstWrong : GoodIn wsX5_sound wsX3_firstWrong := goodIn_r _ [6, 7, 8, 9, 10, 11, 12, 13, 14, 15, 21, 22, 23] (by decide +kernel) (by decide +kernel)
set_option maxRecDepth 20000 in
theorem gX5_sound_X3_firstWrong : GoodIn wsX5_sound (wsV RX5 59 RX3 yX3_firstWrong wsX3_firstWrong) := goodIn_app (goodIn_of _ (by decide +kernel)) ggX5_sound_X3_firstWrong
theorem dX5_sound_0 : decode cX5_sound 0 = .ok (.aload_n 0, 1) := by decide +kernel
theorem dX5_sound_1 : decode cX5_sound 1 = .ok (.getfield 10, 3) := by decide +kernel
theorem dX5_sound_4 : decode cX5_sound 4 = .ok (.invokevirtual 59, 3) := by decide +kernel
theorem dX5_sound_7 : decode cX5_sound 7 = .ok (.ireturn, 1) := by decide +kernel
set_option maxRecDepth 20000 in
theorem ggX5_state_X3_size : GoodIn wsX5_state wsX3_size := goodIn_r _ [6, 7, 36, 37, 38] (by decide +kernel) (by decide +kernel)
set_option maxRecDepth 20000 in
theorem gX5_state_X3_size : GoodIn wsX5_state (wsV RX5 48 RX3 yX3_size wsX3_size) := goodIn_app (goodIn_of _ (by decide +kernel)) ggX5_state_X3_size
set_option maxRecDepth 20000 in
theorem ggX5_state_X5_isBelow : GoodIn wsX5_state wsX5_isBelow := goodIn_r _ [11] (by decide +kernel) (by decide +kernel)
set_option maxRecDepth 20000 in
theorem gX5_state_X5_isBelow : GoodIn wsX5_state (va_wsS RX5 62 yX5_isBelow wsX5_isBelow) := goodIn_app (goodIn_of _ (by decide +kernel)) ggX5_state_X5_isBelow
set_option maxRecDepth 20000 in
theorem ggX5_state_X3_isSound : GoodIn wsX5_state wsX3_isSound := goodIn_r _ [15, 16, 17, 18, 5, 19, 7, 20, 21, 22, 10, 23, 24, 25, 26, 36, 37, 38] (by decide +kernel) (by decide +kernel)
set_option maxRecDepth 20000 in
theorem gX5_state_X3_isSound : GoodIn wsX5_state (wsV RX5 66 RX3 yX3_isSound wsX3_isSound) := goodIn_app (goodIn_of _ (by decide +kernel)) ggX5_state_X3_isSound
set_option maxRecDepth 20000 in
theorem ggX5_state_X3_stateAt : GoodIn wsX5_state wsX3_stateAt := goodIn_r _ [30, 7, 21, 9, 10, 11, 36, 37, 38] (by decide +kernel) (by decide +kernel)
set_option maxRecDepth 20000 in
theorem gX5_state_X3_stateAt : GoodIn wsX5_state (wsV RX5 70 RX3 yX3_stateAt wsX3_stateAt) := goodIn_app (goodIn_of _ (by decide +kernel)) ggX5_state_X3_stateAt
theorem dX5_state_0 : decode cX5_state 0 = .ok (.iload_n 1, 1) := by decide +kernel
theorem dX5_state_1 : decode cX5_state 1 = .ok (.aload_n 0, 1) := by decide +kernel
theorem dX5_state_2 : decode cX5_state 2 = .ok (.getfield 10, 3) := by decide +kernel
theorem dX5_state_5 : decode cX5_state 5 = .ok (.invokevirtual 48, 3) := by decide +kernel
theorem dX5_state_8 : decode cX5_state 8 = .ok (.invokestatic 62, 3) := by decide +kernel
theorem dX5_state_11 : decode cX5_state 11 = .ok (.ifCond .ne 6, 3) := by decide +kernel
theorem dX5_state_14 : decode cX5_state 14 = .ok (.bipush (-2), 2) := by decide +kernel
theorem dX5_state_16 : decode cX5_state 16 = .ok (.ireturn, 1) := by decide +kernel
theorem dX5_state_17 : decode cX5_state 17 = .ok (.aload_n 0, 1) := by decide +kernel
theorem dX5_state_18 : decode cX5_state 18 = .ok (.getfield 10, 3) := by decide +kernel
theorem dX5_state_21 : decode cX5_state 21 = .ok (.invokevirtual 66, 3) := by decide +kernel
theorem dX5_state_24 : decode cX5_state 24 = .ok (.ifCond .ne 6, 3) := by decide +kernel
theorem dX5_state_27 : decode cX5_state 27 = .ok (.bipush (-3), 2) := by decide +kernel
theorem dX5_state_29 : decode cX5_state 29 = .ok (.ireturn, 1) := by decide +kernel
theorem dX5_state_30 : decode cX5_state 30 = .ok (.aload_n 0, 1) := by decide +kernel
theorem dX5_state_31 : decode cX5_state 31 = .ok (.getfield 10, 3) := by decide +kernel
theorem dX5_state_34 : decode cX5_state 34 = .ok (.iload_n 1, 1) := by decide +kernel
theorem dX5_state_35 : decode cX5_state 35 = .ok (.invokevirtual 70, 3) := by decide +kernel
theorem dX5_state_38 : decode cX5_state 38 = .ok (.ireturn, 1) := by decide +kernel
set_option maxRecDepth 20000 in
theorem ggX5_clash_X5_isBelow : GoodIn wsX5_clash wsX5_isBelow := goodIn_r _ [5] (by decide +kernel) (by decide +kernel)
set_option maxRecDepth 20000 in
theorem gX5_clash_X5_isBelow : GoodIn wsX5_clash (va_wsS RX5 62 yX5_isBelow wsX5_isBelow) := goodIn_app (goodIn_of _ (by decide +kernel)) ggX5_clash_X5_isBelow
set_option maxRecDepth 20000 in
theorem ggX5_clash_X3_isSound : GoodIn wsX5_clash wsX3_isSound := goodIn_r _ [10, 11, 12, 13, 9, 14, 15, 16, 17, 18, 4, 19, 20, 21, 22, 101, 102, 103] (by decide +kernel) (by decide +kernel)
set_option maxRecDepth 20000 in
theorem gX5_clash_X3_isSound : GoodIn wsX5_clash (wsV RX5 66 RX3 yX3_isSound wsX3_isSound) := goodIn_app (goodIn_of _ (by decide +kernel)) ggX5_clash_X3_isSound
set_option maxRecDepth 20000 in
theorem ggX5_clash_X5_firstClash : GoodIn wsX5_clash wsX5_firstClash := goodIn_r _ [26, 27, 1, 28, 29, 30, 31, 32, 33, 34, 35, 9, 36, 15, 37, 38, 39, 40, 41, 42, 43, 44, 45, 46, 47, 48, 49, 50, 51, 52, 53, 16, 3, 4, 5, 54, 55, 56, 57, 58, 59, 60, 61, 62, 63, 64, 65, 66, 67, 68, 69, 70, 71, 72, 73, 74, 75, 76, 77, 78, 79, 80, 81, 82, 83, 84, 85, 17, 86, 18, 19, 20, 21, 22, 87, 88, 89, 90, 91, 92, 93, 94, 95, 96, 97, 98, 99, 100, 101, 102, 103, 104, 105, 106] (by decide +kernel) (by decide +kernel)
set_option maxRecDepth 20000 in
theorem gX5_clash_X5_firstClash : GoodIn wsX5_clash (wsV RX5 74 RX5 yX5_firstClash wsX5_firstClash) := goodIn_app (goodIn_of _ (by decide +kernel)) ggX5_clash_X5_firstClash
theorem dX5_clash_0 : decode cX5_clash 0 = .ok (.iload_n 1, 1) := by decide +kernel
theorem dX5_clash_1 : decode cX5_clash 1 = .ok (.iconst 2, 1) := by decide +kernel
theorem dX5_clash_2 : decode cX5_clash 2 = .ok (.invokestatic 62, 3) := by decide +kernel
theorem dX5_clash_5 : decode cX5_clash 5 = .ok (.ifCond .ne 6, 3) := by decide +kernel
theorem dX5_clash_8 : decode cX5_clash 8 = .ok (.bipush (-2), 2) := by decide +kernel
theorem dX5_clash_10 : decode cX5_clash 10 = .ok (.ireturn, 1) := by decide +kernel
theorem dX5_clash_11 : decode cX5_clash 11 = .ok (.aload_n 0, 1) := by decide +kernel
theorem dX5_clash_12 : decode cX5_clash 12 = .ok (.getfield 10, 3) := by decide +kernel
theorem dX5_clash_15 : decode cX5_clash 15 = .ok (.invokevirtual 66, 3) := by decide +kernel
theorem dX5_clash_18 : decode cX5_clash 18 = .ok (.ifCond .ne 6, 3) := by decide +kernel
theorem dX5_clash_21 : decode cX5_clash 21 = .ok (.bipush (-3), 2) := by decide +kernel
theorem dX5_clash_23 : decode cX5_clash 23 = .ok (.ireturn, 1) := by decide +kernel
theorem dX5_clash_24 : decode cX5_clash 24 = .ok (.aload_n 0, 1) := by decide +kernel
theorem dX5_clash_25 : decode cX5_clash 25 = .ok (.iload_n 1, 1) := by decide +kernel
theorem dX5_clash_26 : decode cX5_clash 26 = .ok (.invokevirtual 74, 3) := by decide +kernel
theorem dX5_clash_29 : decode cX5_clash 29 = .ok (.ireturn, 1) := by decide +kernel
set_option maxRecDepth 20000 in
theorem ggX5_clashOf_X5_isBelow : GoodIn wsX5_clashOf wsX5_isBelow := goodIn_r _ [5] (by decide +kernel) (by decide +kernel)
set_option maxRecDepth 20000 in
theorem gX5_clashOf_X5_isBelow : GoodIn wsX5_clashOf (va_wsS RX5 62 yX5_isBelow wsX5_isBelow) := goodIn_app (goodIn_of _ (by decide +kernel)) ggX5_clashOf_X5_isBelow
set_option maxRecDepth 20000 in
theorem ggX5_clashOf_X3_isSound : GoodIn wsX5_clashOf wsX3_isSound := goodIn_r _ [10, 11, 12, 13, 9, 14, 15, 16, 17, 18, 4, 19, 20, 21, 22, 107, 108, 109] (by decide +kernel) (by decide +kernel)
set_option maxRecDepth 20000 in
theorem gX5_clashOf_X3_isSound : GoodIn wsX5_clashOf (wsV RX5 66 RX3 yX3_isSound wsX3_isSound) := goodIn_app (goodIn_of _ (by decide +kernel)) ggX5_clashOf_X3_isSound
set_option maxRecDepth 20000 in
theorem ggX5_clashOf_X5_firstClash : GoodIn wsX5_clashOf wsX5_firstClash := goodIn_r _ [26, 27, 1, 28, 29, 30, 31, 32, 33, 34, 35, 9, 36, 15, 37, 38, 39, 40, 41, 42, 43, 44, 45, 46, 47, 48, 49, 50, 51, 52, 53, 16, 3, 4, 5, 54, 55, 56, 57, 58, 59, 60, 61, 62, 63, 64, 65, 66, 67, 68, 69, 70, 71, 72, 73, 74, 75, 76, 77, 78, 79, 80, 81, 82, 83, 84, 85, 17, 86, 18, 19, 20, 21, 22, 87, 88, 89, 90, 91, 92, 93, 94, 95, 102, 103, 104, 105, 106, 107, 108, 109, 110, 111, 112] (by decide +kernel) (by decide +kernel)
set_option maxRecDepth 20000 in
theorem gX5_clashOf_X5_firstClash : GoodIn wsX5_clashOf (wsV RX5 74 RX5 yX5_firstClash wsX5_firstClash) := goodIn_app (goodIn_of _ (by decide +kernel)) ggX5_clashOf_X5_firstClash
set_option maxRecDepth 20000 in
theorem ggX5_clashOf_X5_clashing : GoodIn wsX5_clashOf wsX5_clashing := goodIn_r _ [72, 1, 68, 34, 35, 9, 36, 15, 73, 74, 75, 4, 76, 27, 77, 78, 79, 80, 81, 51, 52, 53, 16, 3, 5, 82, 83, 84, 85, 17, 86, 18, 19, 20, 21, 22, 87, 88, 89, 31, 90, 66, 67, 91, 92, 93, 94, 95, 56, 57, 58, 59, 60, 61, 102, 103, 104, 105, 106, 107, 108, 109, 110, 111, 112] (by decide +kernel) (by decide +kernel)
set_option maxRecDepth 20000 in
theorem gX5_clashOf_X5_clashing : GoodIn wsX5_clashOf (wsV RX5 77 RX5 yX5_clashing wsX5_clashing) := goodIn_app (goodIn_of _ (by decide +kernel)) ggX5_clashOf_X5_clashing
set_option maxRecDepth 20000 in
theorem ggX5_clashOf_X5_leastOf : GoodIn wsX5_clashOf wsX5_leastOf := goodIn_r _ [98, 99, 100, 4, 101] (by decide +kernel) (by decide +kernel)
set_option maxRecDepth 20000 in
theorem gX5_clashOf_X5_leastOf : GoodIn wsX5_clashOf (va_wsS RX5 81 yX5_leastOf wsX5_leastOf) := goodIn_app (goodIn_of _ (by decide +kernel)) ggX5_clashOf_X5_leastOf
theorem dX5_clashOf_0 : decode cX5_clashOf 0 = .ok (.iload_n 1, 1) := by decide +kernel
theorem dX5_clashOf_1 : decode cX5_clashOf 1 = .ok (.iconst 2, 1) := by decide +kernel
theorem dX5_clashOf_2 : decode cX5_clashOf 2 = .ok (.invokestatic 62, 3) := by decide +kernel
theorem dX5_clashOf_5 : decode cX5_clashOf 5 = .ok (.ifCond .ne 6, 3) := by decide +kernel
theorem dX5_clashOf_8 : decode cX5_clashOf 8 = .ok (.bipush (-2), 2) := by decide +kernel
theorem dX5_clashOf_10 : decode cX5_clashOf 10 = .ok (.ireturn, 1) := by decide +kernel
theorem dX5_clashOf_11 : decode cX5_clashOf 11 = .ok (.aload_n 0, 1) := by decide +kernel
theorem dX5_clashOf_12 : decode cX5_clashOf 12 = .ok (.getfield 10, 3) := by decide +kernel
theorem dX5_clashOf_15 : decode cX5_clashOf 15 = .ok (.invokevirtual 66, 3) := by decide +kernel
theorem dX5_clashOf_18 : decode cX5_clashOf 18 = .ok (.ifCond .ne 6, 3) := by decide +kernel
theorem dX5_clashOf_21 : decode cX5_clashOf 21 = .ok (.bipush (-3), 2) := by decide +kernel
theorem dX5_clashOf_23 : decode cX5_clashOf 23 = .ok (.ireturn, 1) := by decide +kernel
theorem dX5_clashOf_24 : decode cX5_clashOf 24 = .ok (.aload_n 0, 1) := by decide +kernel
theorem dX5_clashOf_25 : decode cX5_clashOf 25 = .ok (.iload_n 1, 1) := by decide +kernel
theorem dX5_clashOf_26 : decode cX5_clashOf 26 = .ok (.invokevirtual 74, 3) := by decide +kernel
theorem dX5_clashOf_29 : decode cX5_clashOf 29 = .ok (.istore_n 2, 1) := by decide +kernel
theorem dX5_clashOf_30 : decode cX5_clashOf 30 = .ok (.iload_n 2, 1) := by decide +kernel
theorem dX5_clashOf_31 : decode cX5_clashOf 31 = .ok (.iconst (-1), 1) := by decide +kernel
theorem dX5_clashOf_32 : decode cX5_clashOf 32 = .ok (.if_icmp .ne 7, 3) := by decide +kernel
theorem dX5_clashOf_35 : decode cX5_clashOf 35 = .ok (.iconst (-1), 1) := by decide +kernel
theorem dX5_clashOf_36 : decode cX5_clashOf 36 = .ok (.goto 12, 3) := by decide +kernel
theorem dX5_clashOf_39 : decode cX5_clashOf 39 = .ok (.aload_n 0, 1) := by decide +kernel
theorem dX5_clashOf_40 : decode cX5_clashOf 40 = .ok (.iload_n 1, 1) := by decide +kernel
theorem dX5_clashOf_41 : decode cX5_clashOf 41 = .ok (.iload_n 2, 1) := by decide +kernel
theorem dX5_clashOf_42 : decode cX5_clashOf 42 = .ok (.invokevirtual 77, 3) := by decide +kernel
theorem dX5_clashOf_45 : decode cX5_clashOf 45 = .ok (.invokestatic 81, 3) := by decide +kernel
theorem dX5_clashOf_48 : decode cX5_clashOf 48 = .ok (.ireturn, 1) := by decide +kernel
set_option maxRecDepth 20000 in
theorem ggX5_groups_X3_isSound : GoodIn wsX5_groups wsX3_isSound := goodIn_r _ [7, 8, 9, 10, 6, 11, 12, 13, 14, 15, 16, 17, 18, 19, 20, 72, 73, 74] (by decide +kernel) (by decide +kernel)
set_option maxRecDepth 20000 in
theorem gX5_groups_X3_isSound : GoodIn wsX5_groups (wsV RX5 66 RX3 yX3_isSound wsX3_isSound) := goodIn_app (goodIn_of _ (by decide +kernel)) ggX5_groups_X3_isSound
set_option maxRecDepth 20000 in
theorem ggX5_groups_X0_find : GoodIn wsX5_groups wsX0_find := goodIn_r _ [25, 26, 27, 28, 6, 29, 12, 30, 31, 32, 24, 33, 34, 35, 36, 37, 38, 39, 40, 41, 42, 43, 44, 45, 46, 13, 47, 16, 48, 49, 50, 51, 52, 53, 54, 55, 56, 57, 58, 59, 60, 61, 62, 72, 73, 74, 75, 76, 77] (by decide +kernel) (by decide +kernel)
set_option maxRecDepth 20000 in
theorem gX5_groups_X0_find : GoodIn wsX5_groups (wsV RX5 84 RX0 yX0_find wsX0_find) := goodIn_app (goodIn_of _ (by decide +kernel)) ggX5_groups_X0_find
set_option maxRecDepth 20000 in
theorem ggX5_groups_X0_size : GoodIn wsX5_groups wsX0_size := goodIn_r _ [66, 61, 75, 76, 77] (by decide +kernel) (by decide +kernel)
set_option maxRecDepth 20000 in
theorem gX5_groups_X0_size : GoodIn wsX5_groups (wsV RX5 88 RX0 yX0_size wsX0_size) := goodIn_app (goodIn_of _ (by decide +kernel)) ggX5_groups_X0_size
theorem dX5_groups_0 : decode cX5_groups 0 = .ok (.aload_n 0, 1) := by decide +kernel
theorem dX5_groups_1 : decode cX5_groups 1 = .ok (.getfield 10, 3) := by decide +kernel
theorem dX5_groups_4 : decode cX5_groups 4 = .ok (.invokevirtual 66, 3) := by decide +kernel
theorem dX5_groups_7 : decode cX5_groups 7 = .ok (.ifCond .ne 6, 3) := by decide +kernel
theorem dX5_groups_10 : decode cX5_groups 10 = .ok (.bipush (-3), 2) := by decide +kernel
theorem dX5_groups_12 : decode cX5_groups 12 = .ok (.ireturn, 1) := by decide +kernel
theorem dX5_groups_13 : decode cX5_groups 13 = .ok (.aload_n 0, 1) := by decide +kernel
theorem dX5_groups_14 : decode cX5_groups 14 = .ok (.getfield 19, 3) := by decide +kernel
theorem dX5_groups_17 : decode cX5_groups 17 = .ok (.aload_n 0, 1) := by decide +kernel
theorem dX5_groups_18 : decode cX5_groups 18 = .ok (.getfield 10, 3) := by decide +kernel
theorem dX5_groups_21 : decode cX5_groups 21 = .ok (.invokevirtual 84, 3) := by decide +kernel
theorem dX5_groups_24 : decode cX5_groups 24 = .ok (.aload_n 0, 1) := by decide +kernel
theorem dX5_groups_25 : decode cX5_groups 25 = .ok (.getfield 19, 3) := by decide +kernel
theorem dX5_groups_28 : decode cX5_groups 28 = .ok (.invokevirtual 88, 3) := by decide +kernel
theorem dX5_groups_31 : decode cX5_groups 31 = .ok (.ireturn, 1) := by decide +kernel
set_option maxRecDepth 20000 in
theorem ggX5_cut_X3_isSound : GoodIn wsX5_cut wsX3_isSound := goodIn_r _ [7, 8, 9, 10, 6, 11, 12, 13, 14, 15, 16, 17, 18, 19, 20, 76, 77, 78] (by decide +kernel) (by decide +kernel)
set_option maxRecDepth 20000 in
theorem gX5_cut_X3_isSound : GoodIn wsX5_cut (wsV RX5 66 RX3 yX3_isSound wsX3_isSound) := goodIn_app (goodIn_of _ (by decide +kernel)) ggX5_cut_X3_isSound
set_option maxRecDepth 20000 in
theorem ggX5_cut_X0_find : GoodIn wsX5_cut wsX0_find := goodIn_r _ [25, 26, 27, 28, 6, 29, 12, 30, 31, 32, 24, 33, 34, 35, 36, 37, 38, 39, 40, 41, 42, 43, 44, 45, 46, 13, 47, 16, 48, 49, 50, 51, 52, 53, 54, 55, 56, 57, 58, 59, 60, 61, 62, 76, 77, 78, 79, 80, 81] (by decide +kernel) (by decide +kernel)
set_option maxRecDepth 20000 in
theorem gX5_cut_X0_find : GoodIn wsX5_cut (wsV RX5 84 RX0 yX0_find wsX0_find) := goodIn_app (goodIn_of _ (by decide +kernel)) ggX5_cut_X0_find
set_option maxRecDepth 20000 in
theorem ggX5_cut_X0_size : GoodIn wsX5_cut wsX0_size := goodIn_r _ [66, 61, 79, 80, 81] (by decide +kernel) (by decide +kernel)
set_option maxRecDepth 20000 in
theorem gX5_cut_X0_size : GoodIn wsX5_cut (wsV RX5 88 RX0 yX0_size wsX0_size) := goodIn_app (goodIn_of _ (by decide +kernel)) ggX5_cut_X0_size
set_option maxRecDepth 20000 in
theorem ggX5_cut_X0_cutAt : GoodIn wsX5_cut wsX0_cutAt := goodIn_r _ [70, 61, 62, 47, 16, 48, 79, 80, 81] (by decide +kernel) (by decide +kernel)
set_option maxRecDepth 20000 in
theorem gX5_cut_X0_cutAt : GoodIn wsX5_cut (wsV RX5 89 RX0 yX0_cutAt wsX0_cutAt) := goodIn_app (goodIn_of _ (by decide +kernel)) ggX5_cut_X0_cutAt
theorem dX5_cut_0 : decode cX5_cut 0 = .ok (.iload_n 1, 1) := by decide +kernel
theorem dX5_cut_1 : decode cX5_cut 1 = .ok (.ifCond .ge 6, 3) := by decide +kernel
theorem dX5_cut_4 : decode cX5_cut 4 = .ok (.bipush (-2), 2) := by decide +kernel
theorem dX5_cut_6 : decode cX5_cut 6 = .ok (.ireturn, 1) := by decide +kernel
theorem dX5_cut_7 : decode cX5_cut 7 = .ok (.aload_n 0, 1) := by decide +kernel
theorem dX5_cut_8 : decode cX5_cut 8 = .ok (.getfield 10, 3) := by decide +kernel
theorem dX5_cut_11 : decode cX5_cut 11 = .ok (.invokevirtual 66, 3) := by decide +kernel
theorem dX5_cut_14 : decode cX5_cut 14 = .ok (.ifCond .ne 6, 3) := by decide +kernel
theorem dX5_cut_17 : decode cX5_cut 17 = .ok (.bipush (-3), 2) := by decide +kernel
theorem dX5_cut_19 : decode cX5_cut 19 = .ok (.ireturn, 1) := by decide +kernel
theorem dX5_cut_20 : decode cX5_cut 20 = .ok (.aload_n 0, 1) := by decide +kernel
theorem dX5_cut_21 : decode cX5_cut 21 = .ok (.getfield 19, 3) := by decide +kernel
theorem dX5_cut_24 : decode cX5_cut 24 = .ok (.aload_n 0, 1) := by decide +kernel
theorem dX5_cut_25 : decode cX5_cut 25 = .ok (.getfield 10, 3) := by decide +kernel
theorem dX5_cut_28 : decode cX5_cut 28 = .ok (.invokevirtual 84, 3) := by decide +kernel
theorem dX5_cut_31 : decode cX5_cut 31 = .ok (.iload_n 1, 1) := by decide +kernel
theorem dX5_cut_32 : decode cX5_cut 32 = .ok (.aload_n 0, 1) := by decide +kernel
theorem dX5_cut_33 : decode cX5_cut 33 = .ok (.getfield 19, 3) := by decide +kernel
theorem dX5_cut_36 : decode cX5_cut 36 = .ok (.invokevirtual 88, 3) := by decide +kernel
theorem dX5_cut_39 : decode cX5_cut 39 = .ok (.if_icmp .ge 14, 3) := by decide +kernel
theorem dX5_cut_42 : decode cX5_cut 42 = .ok (.aload_n 0, 1) := by decide +kernel
theorem dX5_cut_43 : decode cX5_cut 43 = .ok (.getfield 19, 3) := by decide +kernel
theorem dX5_cut_46 : decode cX5_cut 46 = .ok (.iload_n 1, 1) := by decide +kernel
theorem dX5_cut_47 : decode cX5_cut 47 = .ok (.invokevirtual 89, 3) := by decide +kernel
theorem dX5_cut_50 : decode cX5_cut 50 = .ok (.goto 5, 3) := by decide +kernel
theorem dX5_cut_53 : decode cX5_cut 53 = .ok (.bipush (-2), 2) := by decide +kernel
theorem dX5_cut_55 : decode cX5_cut 55 = .ok (.ireturn, 1) := by decide +kernel
set_option maxRecDepth 20000 in
theorem ggX5_memories_X3_isSound : GoodIn wsX5_memories wsX3_isSound := goodIn_r _ [6, 7, 8, 9, 5, 10, 11, 12, 13, 14, 15, 16, 17, 18, 19, 37, 38, 39] (by decide +kernel) (by decide +kernel)
set_option maxRecDepth 20000 in
theorem gX5_memories_X3_isSound : GoodIn wsX5_memories (wsV RX5 66 RX3 yX3_isSound wsX3_isSound) := goodIn_app (goodIn_of _ (by decide +kernel)) ggX5_memories_X3_isSound
set_option maxRecDepth 20000 in
theorem ggX5_memories_X3_mostAlike : GoodIn wsX5_memories wsX3_mostAlike := goodIn_r _ [23, 11, 13, 24, 25, 26, 27, 28, 29, 30, 5, 31, 37, 38, 39] (by decide +kernel) (by decide +kernel)
set_option maxRecDepth 20000 in
theorem gX5_memories_X3_mostAlike : GoodIn wsX5_memories (wsV RX5 92 RX3 yX3_mostAlike wsX3_mostAlike) := goodIn_app (goodIn_of _ (by decide +kernel)) ggX5_memories_X3_mostAlike
theorem dX5_memories_0 : decode cX5_memories 0 = .ok (.aload_n 0, 1) := by decide +kernel
theorem dX5_memories_1 : decode cX5_memories 1 = .ok (.getfield 10, 3) := by decide +kernel
theorem dX5_memories_4 : decode cX5_memories 4 = .ok (.invokevirtual 66, 3) := by decide +kernel
theorem dX5_memories_7 : decode cX5_memories 7 = .ok (.ifCond .ne 6, 3) := by decide +kernel
theorem dX5_memories_10 : decode cX5_memories 10 = .ok (.bipush (-3), 2) := by decide +kernel
theorem dX5_memories_12 : decode cX5_memories 12 = .ok (.ireturn, 1) := by decide +kernel
theorem dX5_memories_13 : decode cX5_memories 13 = .ok (.aload_n 0, 1) := by decide +kernel
theorem dX5_memories_14 : decode cX5_memories 14 = .ok (.getfield 10, 3) := by decide +kernel
theorem dX5_memories_17 : decode cX5_memories 17 = .ok (.invokevirtual 92, 3) := by decide +kernel
theorem dX5_memories_20 : decode cX5_memories 20 = .ok (.istore_n 1, 1) := by decide +kernel
theorem dX5_memories_21 : decode cX5_memories 21 = .ok (.iconst 0, 1) := by decide +kernel
theorem dX5_memories_22 : decode cX5_memories 22 = .ok (.istore_n 2, 1) := by decide +kernel
theorem dX5_memories_23 : decode cX5_memories 23 = .ok (.iload_n 2, 1) := by decide +kernel
theorem dX5_memories_24 : decode cX5_memories 24 = .ok (.bipush 16, 2) := by decide +kernel
theorem dX5_memories_26 : decode cX5_memories 26 = .ok (.if_icmp .ge 16, 3) := by decide +kernel
theorem dX5_memories_29 : decode cX5_memories 29 = .ok (.iconst 1, 1) := by decide +kernel
theorem dX5_memories_30 : decode cX5_memories 30 = .ok (.iload_n 2, 1) := by decide +kernel
theorem dX5_memories_31 : decode cX5_memories 31 = .ok (.ishl, 1) := by decide +kernel
theorem dX5_memories_32 : decode cX5_memories 32 = .ok (.iload_n 1, 1) := by decide +kernel
theorem dX5_memories_33 : decode cX5_memories 33 = .ok (.if_icmp .ge 9, 3) := by decide +kernel
theorem dX5_memories_36 : decode cX5_memories 36 = .ok (.iinc 2 1, 3) := by decide +kernel
theorem dX5_memories_39 : decode cX5_memories 39 = .ok (.goto (-16), 3) := by decide +kernel
theorem dX5_memories_42 : decode cX5_memories 42 = .ok (.iload_n 2, 1) := by decide +kernel
theorem dX5_memories_43 : decode cX5_memories 43 = .ok (.ireturn, 1) := by decide +kernel
set_option maxRecDepth 20000 in
theorem ggX5_pace_X5_isBelow : GoodIn wsX5_pace wsX5_isBelow := goodIn_r _ [5] (by decide +kernel) (by decide +kernel)
set_option maxRecDepth 20000 in
theorem gX5_pace_X5_isBelow : GoodIn wsX5_pace (va_wsS RX5 62 yX5_isBelow wsX5_isBelow) := goodIn_app (goodIn_of _ (by decide +kernel)) ggX5_pace_X5_isBelow
set_option maxRecDepth 20000 in
theorem ggX5_pace_X5_endOf : GoodIn wsX5_pace wsX5_endOf := goodIn_r _ [8] (by decide +kernel) (by decide +kernel)
set_option maxRecDepth 20000 in
theorem gX5_pace_X5_endOf : GoodIn wsX5_pace (va_wsS RX5 95 yX5_endOf wsX5_endOf) := goodIn_app (goodIn_of _ (by decide +kernel)) ggX5_pace_X5_endOf
set_option maxRecDepth 20000 in
theorem ggX5_pace_X2_put : GoodIn wsX5_pace wsX2_put := goodIn_r _ [13, 14, 15, 3, 4, 5, 21, 22] (by decide +kernel) (by decide +kernel)
set_option maxRecDepth 20000 in
theorem gX5_pace_X2_put : GoodIn wsX5_pace (wsV RX5 99 RX2 yX2_put wsX2_put) := goodIn_app (goodIn_of _ (by decide +kernel)) ggX5_pace_X2_put
theorem dX5_pace_0 : decode cX5_pace 0 = .ok (.iload_n 1, 1) := by decide +kernel
theorem dX5_pace_1 : decode cX5_pace 1 = .ok (.bipush 6, 2) := by decide +kernel
theorem dX5_pace_3 : decode cX5_pace 3 = .ok (.invokestatic 62, 3) := by decide +kernel
theorem dX5_pace_6 : decode cX5_pace 6 = .ok (.ifCond .ne 6, 3) := by decide +kernel
theorem dX5_pace_9 : decode cX5_pace 9 = .ok (.bipush (-2), 2) := by decide +kernel
theorem dX5_pace_11 : decode cX5_pace 11 = .ok (.ireturn, 1) := by decide +kernel
theorem dX5_pace_12 : decode cX5_pace 12 = .ok (.iload_n 3, 1) := by decide +kernel
theorem dX5_pace_13 : decode cX5_pace 13 = .ok (.iconst 1, 1) := by decide +kernel
theorem dX5_pace_14 : decode cX5_pace 14 = .ok (.if_icmp .lt 16, 3) := by decide +kernel
theorem dX5_pace_17 : decode cX5_pace 17 = .ok (.iload 4, 2) := by decide +kernel
theorem dX5_pace_19 : decode cX5_pace 19 = .ok (.bipush 100, 2) := by decide +kernel
theorem dX5_pace_21 : decode cX5_pace 21 = .ok (.if_icmp .gt 9, 3) := by decide +kernel
theorem dX5_pace_24 : decode cX5_pace 24 = .ok (.iload_n 3, 1) := by decide +kernel
theorem dX5_pace_25 : decode cX5_pace 25 = .ok (.iload 4, 2) := by decide +kernel
theorem dX5_pace_27 : decode cX5_pace 27 = .ok (.if_icmp .le 6, 3) := by decide +kernel
theorem dX5_pace_30 : decode cX5_pace 30 = .ok (.bipush (-2), 2) := by decide +kernel
theorem dX5_pace_32 : decode cX5_pace 32 = .ok (.ireturn, 1) := by decide +kernel
theorem dX5_pace_33 : decode cX5_pace 33 = .ok (.aload_n 0, 1) := by decide +kernel
theorem dX5_pace_34 : decode cX5_pace 34 = .ok (.getfield 40, 3) := by decide +kernel
theorem dX5_pace_37 : decode cX5_pace 37 = .ok (.iload_n 1, 1) := by decide +kernel
theorem dX5_pace_38 : decode cX5_pace 38 = .ok (.iload_n 2, 1) := by decide +kernel
theorem dX5_pace_39 : decode cX5_pace 39 = .ok (.invokestatic 95, 3) := by decide +kernel
theorem dX5_pace_42 : decode cX5_pace 42 = .ok (.iload_n 3, 1) := by decide +kernel
theorem dX5_pace_43 : decode cX5_pace 43 = .ok (.iload 4, 2) := by decide +kernel
theorem dX5_pace_45 : decode cX5_pace 45 = .ok (.invokevirtual 99, 3) := by decide +kernel
theorem dX5_pace_48 : decode cX5_pace 48 = .ok (.iconst 1, 1) := by decide +kernel
theorem dX5_pace_49 : decode cX5_pace 49 = .ok (.ireturn, 1) := by decide +kernel
set_option maxRecDepth 20000 in
theorem ggX5_span_X5_isBelow : GoodIn wsX5_span wsX5_isBelow := goodIn_r _ [6] (by decide +kernel) (by decide +kernel)
set_option maxRecDepth 20000 in
theorem gX5_span_X5_isBelow : GoodIn wsX5_span (va_wsS RX5 62 yX5_isBelow wsX5_isBelow) := goodIn_app (goodIn_of _ (by decide +kernel)) ggX5_span_X5_isBelow
end
section
set_option maxRecDepth 20000 in
theorem ggX5_span_X3_isSound : GoodIn wsX5_span wsX3_isSound := goodIn_r _ [11, 12, 13, 14, 10, 15, 16, 17, 18, 19, 5, 20, 21, 22, 23, 64, 65, 66] (by decide +kernel) (by decide +kernel)
set_option maxRecDepth 20000 in
theorem gX5_span_X3_isSound : GoodIn wsX5_span (wsV RX5 66 RX3 yX3_isSound wsX3_isSound) := goodIn_app (goodIn_of _ (by decide +kernel)) ggX5_span_X3_isSound
set_option maxRecDepth 20000 in
theorem ggX5_span_X2_leastOfLoop : GoodIn wsX5_span wsX2_leastOfLoop := goodIn_r _ [28, 29, 30, 31, 27, 32, 33, 34, 35, 10, 36, 16, 37, 38, 39, 40, 17, 4, 5, 6, 41, 42, 43, 44, 45, 46, 47, 48, 49, 67, 68, 64, 65, 66] (by decide +kernel) (by decide +kernel)
set_option maxRecDepth 20000 in
theorem gX5_span_X2_leastOfLoop : GoodIn wsX5_span (wsV RX5 103 RX2 yX2_leastOfLoop wsX2_leastOfLoop) := goodIn_app (goodIn_of _ (by decide +kernel)) ggX5_span_X2_leastOfLoop
set_option maxRecDepth 20000 in
theorem ggX5_span_X2_mostOfLoop : GoodIn wsX5_span wsX2_mostOfLoop := goodIn_r _ [53, 54, 30, 31, 27, 32, 33, 34, 35, 10, 36, 16, 37, 38, 39, 40, 17, 4, 5, 6, 41, 42, 43, 44, 45, 46, 47, 48, 49, 67, 68, 64, 65, 66] (by decide +kernel) (by decide +kernel)
set_option maxRecDepth 20000 in
theorem gX5_span_X2_mostOfLoop : GoodIn wsX5_span (wsV RX5 107 RX2 yX2_mostOfLoop wsX2_mostOfLoop) := goodIn_app (goodIn_of _ (by decide +kernel)) ggX5_span_X2_mostOfLoop
set_option maxRecDepth 20000 in
theorem ggX5_span_X2_slowest : GoodIn wsX5_span wsX2_slowest := goodIn_r _ [58, 54, 33, 34, 35, 10, 36, 16, 37, 38, 39, 40, 17, 4, 5, 6, 41, 42, 27, 43, 44, 45, 46, 47, 48, 49, 67, 68, 64, 65, 66] (by decide +kernel) (by decide +kernel)
set_option maxRecDepth 20000 in
theorem gX5_span_X2_slowest : GoodIn wsX5_span (wsV RX5 110 RX2 yX2_slowest wsX2_slowest) := goodIn_app (goodIn_of _ (by decide +kernel)) ggX5_span_X2_slowest
theorem dX5_span_0 : decode cX5_span 0 = .ok (.iload_n 1, 1) := by decide +kernel
theorem dX5_span_1 : decode cX5_span 1 = .ok (.iconst 3, 1) := by decide +kernel
theorem dX5_span_2 : decode cX5_span 2 = .ok (.invokestatic 62, 3) := by decide +kernel
theorem dX5_span_5 : decode cX5_span 5 = .ok (.ifCond .ne 6, 3) := by decide +kernel
theorem dX5_span_8 : decode cX5_span 8 = .ok (.bipush (-2), 2) := by decide +kernel
theorem dX5_span_10 : decode cX5_span 10 = .ok (.ireturn, 1) := by decide +kernel
theorem dX5_span_11 : decode cX5_span 11 = .ok (.aload_n 0, 1) := by decide +kernel
theorem dX5_span_12 : decode cX5_span 12 = .ok (.getfield 10, 3) := by decide +kernel
theorem dX5_span_15 : decode cX5_span 15 = .ok (.invokevirtual 66, 3) := by decide +kernel
theorem dX5_span_18 : decode cX5_span 18 = .ok (.ifCond .ne 6, 3) := by decide +kernel
theorem dX5_span_21 : decode cX5_span 21 = .ok (.bipush (-3), 2) := by decide +kernel
theorem dX5_span_23 : decode cX5_span 23 = .ok (.ireturn, 1) := by decide +kernel
theorem dX5_span_24 : decode cX5_span 24 = .ok (.iload_n 1, 1) := by decide +kernel
theorem dX5_span_25 : decode cX5_span 25 = .ok (.ifCond .ne 15, 3) := by decide +kernel
theorem dX5_span_28 : decode cX5_span 28 = .ok (.aload_n 0, 1) := by decide +kernel
theorem dX5_span_29 : decode cX5_span 29 = .ok (.getfield 40, 3) := by decide +kernel
theorem dX5_span_32 : decode cX5_span 32 = .ok (.aload_n 0, 1) := by decide +kernel
theorem dX5_span_33 : decode cX5_span 33 = .ok (.getfield 10, 3) := by decide +kernel
theorem dX5_span_36 : decode cX5_span 36 = .ok (.invokevirtual 103, 3) := by decide +kernel
theorem dX5_span_39 : decode cX5_span 39 = .ok (.ireturn, 1) := by decide +kernel
theorem dX5_span_40 : decode cX5_span 40 = .ok (.iload_n 1, 1) := by decide +kernel
theorem dX5_span_41 : decode cX5_span 41 = .ok (.iconst 1, 1) := by decide +kernel
theorem dX5_span_42 : decode cX5_span 42 = .ok (.if_icmp .ne 15, 3) := by decide +kernel
theorem dX5_span_45 : decode cX5_span 45 = .ok (.aload_n 0, 1) := by decide +kernel
theorem dX5_span_46 : decode cX5_span 46 = .ok (.getfield 40, 3) := by decide +kernel
theorem dX5_span_49 : decode cX5_span 49 = .ok (.aload_n 0, 1) := by decide +kernel
theorem dX5_span_50 : decode cX5_span 50 = .ok (.getfield 10, 3) := by decide +kernel
theorem dX5_span_53 : decode cX5_span 53 = .ok (.invokevirtual 107, 3) := by decide +kernel
theorem dX5_span_56 : decode cX5_span 56 = .ok (.ireturn, 1) := by decide +kernel
theorem dX5_span_57 : decode cX5_span 57 = .ok (.aload_n 0, 1) := by decide +kernel
theorem dX5_span_58 : decode cX5_span 58 = .ok (.getfield 40, 3) := by decide +kernel
theorem dX5_span_61 : decode cX5_span 61 = .ok (.aload_n 0, 1) := by decide +kernel
theorem dX5_span_62 : decode cX5_span 62 = .ok (.getfield 10, 3) := by decide +kernel
theorem dX5_span_65 : decode cX5_span 65 = .ok (.invokevirtual 110, 3) := by decide +kernel
theorem dX5_span_68 : decode cX5_span 68 = .ok (.ireturn, 1) := by decide +kernel
set_option maxRecDepth 20000 in
theorem ggX5_law_X5_isBelow : GoodIn wsX5_law wsX5_isBelow := goodIn_r _ [6] (by decide +kernel) (by decide +kernel)
set_option maxRecDepth 20000 in
theorem gX5_law_X5_isBelow : GoodIn wsX5_law (va_wsS RX5 62 yX5_isBelow wsX5_isBelow) := goodIn_app (goodIn_of _ (by decide +kernel)) ggX5_law_X5_isBelow
set_option maxRecDepth 20000 in
theorem ggX5_law_X1_size : GoodIn wsX5_law wsX1_size := goodIn_r _ [11, 12, 63, 64, 65] (by decide +kernel) (by decide +kernel)
set_option maxRecDepth 20000 in
theorem gX5_law_X1_size : GoodIn wsX5_law (wsV RX5 113 RX1 yX1_size wsX1_size) := goodIn_app (goodIn_of _ (by decide +kernel)) ggX5_law_X1_size
set_option maxRecDepth 20000 in
theorem ggX5_law_X5_endOf : GoodIn wsX5_law wsX5_endOf := goodIn_r _ [15] (by decide +kernel) (by decide +kernel)
set_option maxRecDepth 20000 in
theorem gX5_law_X5_endOf : GoodIn wsX5_law (va_wsS RX5 95 yX5_endOf wsX5_endOf) := goodIn_app (goodIn_of _ (by decide +kernel)) ggX5_law_X5_endOf
set_option maxRecDepth 20000 in
theorem ggX5_law_X1_add : GoodIn wsX5_law wsX1_add := goodIn_r _ [19, 12, 20, 21, 63, 64, 65] (by decide +kernel) (by decide +kernel)
set_option maxRecDepth 20000 in
theorem gX5_law_X1_add : GoodIn wsX5_law (wsV RX5 114 RX1 yX1_add wsX1_add) := goodIn_app (goodIn_of _ (by decide +kernel)) ggX5_law_X1_add
set_option maxRecDepth 20000 in
theorem ggX5_law_X4_measure : GoodIn wsX5_law wsX4_measure := goodIn_r _ [26, 27, 28, 29, 30, 31, 25, 32, 33, 34, 35, 10, 36, 37, 5, 38, 39, 40, 41, 42, 12, 21, 20, 43, 44, 45, 46, 47, 48, 49, 50, 51, 52, 53, 54, 55, 56, 57, 66, 67, 63, 64, 65] (by decide +kernel) (by decide +kernel)
set_option maxRecDepth 20000 in
theorem gX5_law_X4_measure : GoodIn wsX5_law (wsV RX5 115 RX4 yX4_measure wsX4_measure) := goodIn_app (goodIn_of _ (by decide +kernel)) ggX5_law_X4_measure
theorem dX5_law_0 : decode cX5_law 0 = .ok (.iload_n 1, 1) := by decide +kernel
theorem dX5_law_1 : decode cX5_law 1 = .ok (.bipush 6, 2) := by decide +kernel
theorem dX5_law_3 : decode cX5_law 3 = .ok (.invokestatic 62, 3) := by decide +kernel
theorem dX5_law_6 : decode cX5_law 6 = .ok (.ifCond .eq 17, 3) := by decide +kernel
theorem dX5_law_9 : decode cX5_law 9 = .ok (.iload_n 3, 1) := by decide +kernel
theorem dX5_law_10 : decode cX5_law 10 = .ok (.bipush 6, 2) := by decide +kernel
theorem dX5_law_12 : decode cX5_law 12 = .ok (.invokestatic 62, 3) := by decide +kernel
theorem dX5_law_15 : decode cX5_law 15 = .ok (.ifCond .eq 8, 3) := by decide +kernel
theorem dX5_law_18 : decode cX5_law 18 = .ok (.iload_n 1, 1) := by decide +kernel
theorem dX5_law_19 : decode cX5_law 19 = .ok (.iload_n 3, 1) := by decide +kernel
theorem dX5_law_20 : decode cX5_law 20 = .ok (.if_icmp .ne 6, 3) := by decide +kernel
theorem dX5_law_23 : decode cX5_law 23 = .ok (.bipush (-2), 2) := by decide +kernel
theorem dX5_law_25 : decode cX5_law 25 = .ok (.ireturn, 1) := by decide +kernel
theorem dX5_law_26 : decode cX5_law 26 = .ok (.aload_n 0, 1) := by decide +kernel
theorem dX5_law_27 : decode cX5_law 27 = .ok (.getfield 26, 3) := by decide +kernel
theorem dX5_law_30 : decode cX5_law 30 = .ok (.invokevirtual 113, 3) := by decide +kernel
theorem dX5_law_33 : decode cX5_law 33 = .ok (.bipush 12, 2) := by decide +kernel
theorem dX5_law_35 : decode cX5_law 35 = .ok (.if_icmp .lt 6, 3) := by decide +kernel
theorem dX5_law_38 : decode cX5_law 38 = .ok (.bipush (-4), 2) := by decide +kernel
theorem dX5_law_40 : decode cX5_law 40 = .ok (.ireturn, 1) := by decide +kernel
theorem dX5_law_41 : decode cX5_law 41 = .ok (.aload_n 0, 1) := by decide +kernel
theorem dX5_law_42 : decode cX5_law 42 = .ok (.getfield 26, 3) := by decide +kernel
theorem dX5_law_45 : decode cX5_law 45 = .ok (.iload_n 1, 1) := by decide +kernel
theorem dX5_law_46 : decode cX5_law 46 = .ok (.iload_n 2, 1) := by decide +kernel
theorem dX5_law_47 : decode cX5_law 47 = .ok (.invokestatic 95, 3) := by decide +kernel
theorem dX5_law_50 : decode cX5_law 50 = .ok (.iload_n 3, 1) := by decide +kernel
theorem dX5_law_51 : decode cX5_law 51 = .ok (.iload 4, 2) := by decide +kernel
theorem dX5_law_53 : decode cX5_law 53 = .ok (.invokestatic 95, 3) := by decide +kernel
theorem dX5_law_56 : decode cX5_law 56 = .ok (.invokevirtual 114, 3) := by decide +kernel
theorem dX5_law_59 : decode cX5_law 59 = .ok (.aload_n 0, 1) := by decide +kernel
theorem dX5_law_60 : decode cX5_law 60 = .ok (.getfield 33, 3) := by decide +kernel
theorem dX5_law_63 : decode cX5_law 63 = .ok (.aload_n 0, 1) := by decide +kernel
theorem dX5_law_64 : decode cX5_law 64 = .ok (.getfield 26, 3) := by decide +kernel
theorem dX5_law_67 : decode cX5_law 67 = .ok (.invokevirtual 115, 3) := by decide +kernel
theorem dX5_law_70 : decode cX5_law 70 = .ok (.aload_n 0, 1) := by decide +kernel
theorem dX5_law_71 : decode cX5_law 71 = .ok (.getfield 26, 3) := by decide +kernel
theorem dX5_law_74 : decode cX5_law 74 = .ok (.invokevirtual 113, 3) := by decide +kernel
theorem dX5_law_77 : decode cX5_law 77 = .ok (.iconst 1, 1) := by decide +kernel
theorem dX5_law_78 : decode cX5_law 78 = .ok (.isub, 1) := by decide +kernel
theorem dX5_law_79 : decode cX5_law 79 = .ok (.ireturn, 1) := by decide +kernel
set_option maxRecDepth 20000 in
theorem ggX5_repeal_X1_size : GoodIn wsX5_repeal wsX1_size := goodIn_r _ [7, 8, 60, 61, 62] (by decide +kernel) (by decide +kernel)
set_option maxRecDepth 20000 in
theorem gX5_repeal_X1_size : GoodIn wsX5_repeal (wsV RX5 113 RX1 yX1_size wsX1_size) := goodIn_app (goodIn_of _ (by decide +kernel)) ggX5_repeal_X1_size
set_option maxRecDepth 20000 in
theorem ggX5_repeal_X5_isBelow : GoodIn wsX5_repeal wsX5_isBelow := goodIn_r _ [12] (by decide +kernel) (by decide +kernel)
set_option maxRecDepth 20000 in
theorem gX5_repeal_X5_isBelow : GoodIn wsX5_repeal (va_wsS RX5 62 yX5_isBelow wsX5_isBelow) := goodIn_app (goodIn_of _ (by decide +kernel)) ggX5_repeal_X5_isBelow
set_option maxRecDepth 20000 in
theorem ggX5_repeal_X1_remove : GoodIn wsX5_repeal wsX1_remove := goodIn_r _ [16, 8, 17, 18, 10, 11, 12, 60, 61, 62] (by decide +kernel) (by decide +kernel)
set_option maxRecDepth 20000 in
theorem gX5_repeal_X1_remove : GoodIn wsX5_repeal (wsV RX5 119 RX1 yX1_remove wsX1_remove) := goodIn_app (goodIn_of _ (by decide +kernel)) ggX5_repeal_X1_remove
set_option maxRecDepth 20000 in
theorem ggX5_repeal_X4_measure : GoodIn wsX5_repeal wsX4_measure := goodIn_r _ [23, 24, 25, 26, 27, 28, 22, 29, 30, 31, 32, 6, 33, 34, 11, 35, 36, 37, 38, 39, 8, 18, 17, 40, 41, 42, 43, 44, 45, 46, 47, 48, 49, 50, 51, 52, 53, 54, 63, 64, 60, 61, 62] (by decide +kernel) (by decide +kernel)
set_option maxRecDepth 20000 in
theorem gX5_repeal_X4_measure : GoodIn wsX5_repeal (wsV RX5 115 RX4 yX4_measure wsX4_measure) := goodIn_app (goodIn_of _ (by decide +kernel)) ggX5_repeal_X4_measure
theorem dX5_repeal_0 : decode cX5_repeal 0 = .ok (.iload_n 1, 1) := by decide +kernel
theorem dX5_repeal_1 : decode cX5_repeal 1 = .ok (.aload_n 0, 1) := by decide +kernel
theorem dX5_repeal_2 : decode cX5_repeal 2 = .ok (.getfield 26, 3) := by decide +kernel
theorem dX5_repeal_5 : decode cX5_repeal 5 = .ok (.invokevirtual 113, 3) := by decide +kernel
theorem dX5_repeal_8 : decode cX5_repeal 8 = .ok (.invokestatic 62, 3) := by decide +kernel
theorem dX5_repeal_11 : decode cX5_repeal 11 = .ok (.ifCond .ne 6, 3) := by decide +kernel
theorem dX5_repeal_14 : decode cX5_repeal 14 = .ok (.bipush (-2), 2) := by decide +kernel
theorem dX5_repeal_16 : decode cX5_repeal 16 = .ok (.ireturn, 1) := by decide +kernel
theorem dX5_repeal_17 : decode cX5_repeal 17 = .ok (.aload_n 0, 1) := by decide +kernel
theorem dX5_repeal_18 : decode cX5_repeal 18 = .ok (.getfield 26, 3) := by decide +kernel
theorem dX5_repeal_21 : decode cX5_repeal 21 = .ok (.iload_n 1, 1) := by decide +kernel
theorem dX5_repeal_22 : decode cX5_repeal 22 = .ok (.invokevirtual 119, 3) := by decide +kernel
theorem dX5_repeal_25 : decode cX5_repeal 25 = .ok (.aload_n 0, 1) := by decide +kernel
theorem dX5_repeal_26 : decode cX5_repeal 26 = .ok (.getfield 33, 3) := by decide +kernel
theorem dX5_repeal_29 : decode cX5_repeal 29 = .ok (.aload_n 0, 1) := by decide +kernel
theorem dX5_repeal_30 : decode cX5_repeal 30 = .ok (.getfield 26, 3) := by decide +kernel
theorem dX5_repeal_33 : decode cX5_repeal 33 = .ok (.invokevirtual 115, 3) := by decide +kernel
theorem dX5_repeal_36 : decode cX5_repeal 36 = .ok (.iconst 1, 1) := by decide +kernel
theorem dX5_repeal_37 : decode cX5_repeal 37 = .ok (.ireturn, 1) := by decide +kernel
set_option maxRecDepth 20000 in
theorem ggX5_breach_X3_isSound : GoodIn wsX5_breach wsX3_isSound := goodIn_r _ [7, 8, 9, 10, 6, 11, 12, 13, 14, 15, 16, 17, 18, 19, 20, 60, 61, 62] (by decide +kernel) (by decide +kernel)
set_option maxRecDepth 20000 in
theorem gX5_breach_X3_isSound : GoodIn wsX5_breach (wsV RX5 66 RX3 yX3_isSound wsX3_isSound) := goodIn_app (goodIn_of _ (by decide +kernel)) ggX5_breach_X3_isSound
set_option maxRecDepth 20000 in
theorem ggX5_breach_X3_size : GoodIn wsX5_breach wsX3_size := goodIn_r _ [24, 12, 60, 61, 62] (by decide +kernel) (by decide +kernel)
set_option maxRecDepth 20000 in
theorem gX5_breach_X3_size : GoodIn wsX5_breach (wsV RX5 48 RX3 yX3_size wsX3_size) := goodIn_app (goodIn_of _ (by decide +kernel)) ggX5_breach_X3_size
set_option maxRecDepth 20000 in
theorem ggX5_breach_X3_endsOf : GoodIn wsX5_breach wsX3_endsOf := goodIn_r _ [28, 12, 13, 29, 16, 30, 60, 61, 62] (by decide +kernel) (by decide +kernel)
set_option maxRecDepth 20000 in
theorem gX5_breach_X3_endsOf : GoodIn wsX5_breach (wsV RX5 123 RX3 yX3_endsOf wsX3_endsOf) := goodIn_app (goodIn_of _ (by decide +kernel)) ggX5_breach_X3_endsOf
set_option maxRecDepth 20000 in
theorem ggX5_breach_X3_stateAt : GoodIn wsX5_breach wsX3_stateAt := goodIn_r _ [34, 12, 14, 29, 16, 30, 60, 61, 62] (by decide +kernel) (by decide +kernel)
set_option maxRecDepth 20000 in
theorem gX5_breach_X3_stateAt : GoodIn wsX5_breach (wsV RX5 70 RX3 yX3_stateAt wsX3_stateAt) := goodIn_app (goodIn_of _ (by decide +kernel)) ggX5_breach_X3_stateAt
set_option maxRecDepth 20000 in
theorem ggX5_breach_X1_allow : GoodIn wsX5_breach wsX1_allow := goodIn_r _ [39, 40, 41, 42, 15, 16, 17, 18, 19, 20, 43, 44, 45, 46, 47, 48, 49, 50, 51, 52, 53, 54, 63, 64, 65] (by decide +kernel) (by decide +kernel)
set_option maxRecDepth 20000 in
theorem gX5_breach_X1_allow : GoodIn wsX5_breach (wsV RX5 126 RX1 yX1_allow wsX1_allow) := goodIn_app (goodIn_of _ (by decide +kernel)) ggX5_breach_X1_allow
theorem dX5_breach_0 : decode cX5_breach 0 = .ok (.aload_n 0, 1) := by decide +kernel
theorem dX5_breach_1 : decode cX5_breach 1 = .ok (.getfield 10, 3) := by decide +kernel
theorem dX5_breach_4 : decode cX5_breach 4 = .ok (.invokevirtual 66, 3) := by decide +kernel
theorem dX5_breach_7 : decode cX5_breach 7 = .ok (.ifCond .ne 6, 3) := by decide +kernel
theorem dX5_breach_10 : decode cX5_breach 10 = .ok (.bipush (-3), 2) := by decide +kernel
theorem dX5_breach_12 : decode cX5_breach 12 = .ok (.ireturn, 1) := by decide +kernel
theorem dX5_breach_13 : decode cX5_breach 13 = .ok (.iconst 0, 1) := by decide +kernel
theorem dX5_breach_14 : decode cX5_breach 14 = .ok (.istore_n 1, 1) := by decide +kernel
theorem dX5_breach_15 : decode cX5_breach 15 = .ok (.iload_n 1, 1) := by decide +kernel
theorem dX5_breach_16 : decode cX5_breach 16 = .ok (.aload_n 0, 1) := by decide +kernel
theorem dX5_breach_17 : decode cX5_breach 17 = .ok (.getfield 10, 3) := by decide +kernel
theorem dX5_breach_20 : decode cX5_breach 20 = .ok (.invokevirtual 48, 3) := by decide +kernel
theorem dX5_breach_23 : decode cX5_breach 23 = .ok (.if_icmp .ge 37, 3) := by decide +kernel
theorem dX5_breach_26 : decode cX5_breach 26 = .ok (.aload_n 0, 1) := by decide +kernel
theorem dX5_breach_27 : decode cX5_breach 27 = .ok (.getfield 26, 3) := by decide +kernel
theorem dX5_breach_30 : decode cX5_breach 30 = .ok (.aload_n 0, 1) := by decide +kernel
theorem dX5_breach_31 : decode cX5_breach 31 = .ok (.getfield 10, 3) := by decide +kernel
theorem dX5_breach_34 : decode cX5_breach 34 = .ok (.iload_n 1, 1) := by decide +kernel
theorem dX5_breach_35 : decode cX5_breach 35 = .ok (.invokevirtual 123, 3) := by decide +kernel
theorem dX5_breach_38 : decode cX5_breach 38 = .ok (.aload_n 0, 1) := by decide +kernel
theorem dX5_breach_39 : decode cX5_breach 39 = .ok (.getfield 10, 3) := by decide +kernel
theorem dX5_breach_42 : decode cX5_breach 42 = .ok (.iload_n 1, 1) := by decide +kernel
theorem dX5_breach_43 : decode cX5_breach 43 = .ok (.invokevirtual 70, 3) := by decide +kernel
theorem dX5_breach_46 : decode cX5_breach 46 = .ok (.invokevirtual 126, 3) := by decide +kernel
theorem dX5_breach_49 : decode cX5_breach 49 = .ok (.ifCond .ne 5, 3) := by decide +kernel
theorem dX5_breach_52 : decode cX5_breach 52 = .ok (.iload_n 1, 1) := by decide +kernel
theorem dX5_breach_53 : decode cX5_breach 53 = .ok (.ireturn, 1) := by decide +kernel
theorem dX5_breach_54 : decode cX5_breach 54 = .ok (.iinc 1 1, 3) := by decide +kernel
theorem dX5_breach_57 : decode cX5_breach 57 = .ok (.goto (-42), 3) := by decide +kernel
theorem dX5_breach_60 : decode cX5_breach 60 = .ok (.iconst (-1), 1) := by decide +kernel
theorem dX5_breach_61 : decode cX5_breach 61 = .ok (.ireturn, 1) := by decide +kernel
set_option maxRecDepth 20000 in
theorem ggX5_home_X5_isState : GoodIn wsX5_home wsX5_isState := goodIn_r _ [5, 6, 7, 4, 8] (by decide +kernel) (by decide +kernel)
set_option maxRecDepth 20000 in
theorem gX5_home_X5_isState : GoodIn wsX5_home (va_wsS RX5 44 yX5_isState wsX5_isState) := goodIn_app (goodIn_of _ (by decide +kernel)) ggX5_home_X5_isState
set_option maxRecDepth 20000 in
theorem ggX5_home_X4_length : GoodIn wsX5_home wsX4_length := goodIn_r _ [13, 14, 3, 4, 5, 6, 7, 8, 20, 21] (by decide +kernel) (by decide +kernel)
set_option maxRecDepth 20000 in
theorem gX5_home_X4_length : GoodIn wsX5_home (wsV RX5 129 RX4 yX4_length wsX4_length) := goodIn_app (goodIn_of _ (by decide +kernel)) ggX5_home_X4_length
theorem dX5_home_0 : decode cX5_home 0 = .ok (.iload_n 1, 1) := by decide +kernel
theorem dX5_home_1 : decode cX5_home 1 = .ok (.invokestatic 44, 3) := by decide +kernel
theorem dX5_home_4 : decode cX5_home 4 = .ok (.ifCond .ne 6, 3) := by decide +kernel
theorem dX5_home_7 : decode cX5_home 7 = .ok (.bipush (-2), 2) := by decide +kernel
theorem dX5_home_9 : decode cX5_home 9 = .ok (.ireturn, 1) := by decide +kernel
theorem dX5_home_10 : decode cX5_home 10 = .ok (.aload_n 0, 1) := by decide +kernel
theorem dX5_home_11 : decode cX5_home 11 = .ok (.getfield 33, 3) := by decide +kernel
theorem dX5_home_14 : decode cX5_home 14 = .ok (.iload_n 1, 1) := by decide +kernel
theorem dX5_home_15 : decode cX5_home 15 = .ok (.invokevirtual 129, 3) := by decide +kernel
theorem dX5_home_18 : decode cX5_home 18 = .ok (.ireturn, 1) := by decide +kernel
set_option maxRecDepth 20000 in
theorem ggX5_way_X5_isState : GoodIn wsX5_way wsX5_isState := goodIn_r _ [6, 7, 8, 5, 9] (by decide +kernel) (by decide +kernel)
set_option maxRecDepth 20000 in
theorem gX5_way_X5_isState : GoodIn wsX5_way (va_wsS RX5 44 yX5_isState wsX5_isState) := goodIn_app (goodIn_of _ (by decide +kernel)) ggX5_way_X5_isState
set_option maxRecDepth 20000 in
theorem ggX5_way_X4_move : GoodIn wsX5_way wsX4_move := goodIn_r _ [14, 15, 16, 17, 13, 18, 19, 4, 5, 6, 7, 8, 9, 20, 21, 22, 23, 24, 25, 26, 27, 28, 29, 30, 31, 32, 33, 34, 35, 36, 37, 38, 39, 40, 41, 42, 43, 44, 45, 46, 47, 48, 49, 50, 51, 52, 58, 59, 60, 61, 62] (by decide +kernel) (by decide +kernel)
set_option maxRecDepth 20000 in
theorem gX5_way_X4_move : GoodIn wsX5_way (wsV RX5 132 RX4 yX4_move wsX4_move) := goodIn_app (goodIn_of _ (by decide +kernel)) ggX5_way_X4_move
theorem dX5_way_0 : decode cX5_way 0 = .ok (.iload_n 1, 1) := by decide +kernel
theorem dX5_way_1 : decode cX5_way 1 = .ok (.invokestatic 44, 3) := by decide +kernel
theorem dX5_way_4 : decode cX5_way 4 = .ok (.ifCond .eq 7, 3) := by decide +kernel
theorem dX5_way_7 : decode cX5_way 7 = .ok (.iload_n 2, 1) := by decide +kernel
theorem dX5_way_8 : decode cX5_way 8 = .ok (.ifCond .ge 6, 3) := by decide +kernel
theorem dX5_way_11 : decode cX5_way 11 = .ok (.bipush (-2), 2) := by decide +kernel
theorem dX5_way_13 : decode cX5_way 13 = .ok (.ireturn, 1) := by decide +kernel
theorem dX5_way_14 : decode cX5_way 14 = .ok (.aload_n 0, 1) := by decide +kernel
theorem dX5_way_15 : decode cX5_way 15 = .ok (.getfield 33, 3) := by decide +kernel
theorem dX5_way_18 : decode cX5_way 18 = .ok (.aload_n 0, 1) := by decide +kernel
theorem dX5_way_19 : decode cX5_way 19 = .ok (.getfield 26, 3) := by decide +kernel
theorem dX5_way_22 : decode cX5_way 22 = .ok (.iload_n 1, 1) := by decide +kernel
theorem dX5_way_23 : decode cX5_way 23 = .ok (.iload_n 2, 1) := by decide +kernel
theorem dX5_way_24 : decode cX5_way 24 = .ok (.invokevirtual 132, 3) := by decide +kernel
theorem dX5_way_27 : decode cX5_way 27 = .ok (.ireturn, 1) := by decide +kernel
set_option maxRecDepth 20000 in
theorem ggX5_stops_X5_isBelow : GoodIn wsX5_stops wsX5_isBelow := goodIn_r _ [5] (by decide +kernel) (by decide +kernel)
set_option maxRecDepth 20000 in
theorem gX5_stops_X5_isBelow : GoodIn wsX5_stops (va_wsS RX5 62 yX5_isBelow wsX5_isBelow) := goodIn_app (goodIn_of _ (by decide +kernel)) ggX5_stops_X5_isBelow
set_option maxRecDepth 20000 in
theorem ggX5_stops_X3_isSound : GoodIn wsX5_stops wsX3_isSound := goodIn_r _ [10, 11, 12, 13, 9, 14, 15, 16, 17, 18, 4, 19, 20, 21, 22, 43, 44, 45] (by decide +kernel) (by decide +kernel)
set_option maxRecDepth 20000 in
theorem gX5_stops_X3_isSound : GoodIn wsX5_stops (wsV RX5 66 RX3 yX3_isSound wsX3_isSound) := goodIn_app (goodIn_of _ (by decide +kernel)) ggX5_stops_X3_isSound
set_option maxRecDepth 20000 in
theorem ggX5_stops_X3_size : GoodIn wsX5_stops wsX3_size := goodIn_r _ [26, 15, 43, 44, 45] (by decide +kernel) (by decide +kernel)
set_option maxRecDepth 20000 in
theorem gX5_stops_X3_size : GoodIn wsX5_stops (wsV RX5 48 RX3 yX3_size wsX3_size) := goodIn_app (goodIn_of _ (by decide +kernel)) ggX5_stops_X3_size
set_option maxRecDepth 20000 in
theorem ggX5_stops_X3_trigger : GoodIn wsX5_stops wsX3_trigger := goodIn_r _ [30, 15, 31, 32, 33, 9, 34, 16, 3, 4, 5, 43, 44, 45] (by decide +kernel) (by decide +kernel)
set_option maxRecDepth 20000 in
theorem gX5_stops_X3_trigger : GoodIn wsX5_stops (wsV RX5 136 RX3 yX3_trigger wsX3_trigger) := goodIn_app (goodIn_of _ (by decide +kernel)) ggX5_stops_X3_trigger
set_option maxRecDepth 20000 in
theorem ggX5_stops_X5_has : GoodIn wsX5_stops wsX5_has := goodIn_r _ [37] (by decide +kernel) (by decide +kernel)
set_option maxRecDepth 20000 in
theorem gX5_stops_X5_has : GoodIn wsX5_stops (va_wsS RX5 139 yX5_has wsX5_has) := goodIn_app (goodIn_of _ (by decide +kernel)) ggX5_stops_X5_has
theorem dX5_stops_0 : decode cX5_stops 0 = .ok (.iload_n 1, 1) := by decide +kernel
theorem dX5_stops_1 : decode cX5_stops 1 = .ok (.bipush 12, 2) := by decide +kernel
theorem dX5_stops_3 : decode cX5_stops 3 = .ok (.invokestatic 62, 3) := by decide +kernel
theorem dX5_stops_6 : decode cX5_stops 6 = .ok (.ifCond .ne 6, 3) := by decide +kernel
theorem dX5_stops_9 : decode cX5_stops 9 = .ok (.bipush (-2), 2) := by decide +kernel
theorem dX5_stops_11 : decode cX5_stops 11 = .ok (.ireturn, 1) := by decide +kernel
theorem dX5_stops_12 : decode cX5_stops 12 = .ok (.aload_n 0, 1) := by decide +kernel
theorem dX5_stops_13 : decode cX5_stops 13 = .ok (.getfield 10, 3) := by decide +kernel
theorem dX5_stops_16 : decode cX5_stops 16 = .ok (.invokevirtual 66, 3) := by decide +kernel
theorem dX5_stops_19 : decode cX5_stops 19 = .ok (.ifCond .ne 6, 3) := by decide +kernel
theorem dX5_stops_22 : decode cX5_stops 22 = .ok (.bipush (-3), 2) := by decide +kernel
theorem dX5_stops_24 : decode cX5_stops 24 = .ok (.ireturn, 1) := by decide +kernel
theorem dX5_stops_25 : decode cX5_stops 25 = .ok (.iconst 0, 1) := by decide +kernel
theorem dX5_stops_26 : decode cX5_stops 26 = .ok (.istore_n 2, 1) := by decide +kernel
theorem dX5_stops_27 : decode cX5_stops 27 = .ok (.iload_n 2, 1) := by decide +kernel
theorem dX5_stops_28 : decode cX5_stops 28 = .ok (.aload_n 0, 1) := by decide +kernel
theorem dX5_stops_29 : decode cX5_stops 29 = .ok (.getfield 10, 3) := by decide +kernel
theorem dX5_stops_32 : decode cX5_stops 32 = .ok (.invokevirtual 48, 3) := by decide +kernel
theorem dX5_stops_35 : decode cX5_stops 35 = .ok (.if_icmp .ge 26, 3) := by decide +kernel
theorem dX5_stops_38 : decode cX5_stops 38 = .ok (.aload_n 0, 1) := by decide +kernel
theorem dX5_stops_39 : decode cX5_stops 39 = .ok (.getfield 10, 3) := by decide +kernel
theorem dX5_stops_42 : decode cX5_stops 42 = .ok (.iload_n 2, 1) := by decide +kernel
theorem dX5_stops_43 : decode cX5_stops 43 = .ok (.invokevirtual 136, 3) := by decide +kernel
theorem dX5_stops_46 : decode cX5_stops 46 = .ok (.iload_n 1, 1) := by decide +kernel
theorem dX5_stops_47 : decode cX5_stops 47 = .ok (.invokestatic 139, 3) := by decide +kernel
theorem dX5_stops_50 : decode cX5_stops 50 = .ok (.ifCond .eq 5, 3) := by decide +kernel
theorem dX5_stops_53 : decode cX5_stops 53 = .ok (.iload_n 2, 1) := by decide +kernel
theorem dX5_stops_54 : decode cX5_stops 54 = .ok (.ireturn, 1) := by decide +kernel
theorem dX5_stops_55 : decode cX5_stops 55 = .ok (.iinc 2 1, 3) := by decide +kernel
theorem dX5_stops_58 : decode cX5_stops 58 = .ok (.goto (-31), 3) := by decide +kernel
theorem dX5_stops_61 : decode cX5_stops 61 = .ok (.iconst (-1), 1) := by decide +kernel
theorem dX5_stops_62 : decode cX5_stops 62 = .ok (.ireturn, 1) := by decide +kernel
set_option maxRecDepth 20000 in
theorem ggX5_explains_X3_size : GoodIn wsX5_explains wsX3_size := goodIn_r _ [6, 7, 40, 41, 42] (by decide +kernel) (by decide +kernel)
set_option maxRecDepth 20000 in
theorem gX5_explains_X3_size : GoodIn wsX5_explains (wsV RX5 48 RX3 yX3_size wsX3_size) := goodIn_app (goodIn_of _ (by decide +kernel)) ggX5_explains_X3_size
set_option maxRecDepth 20000 in
theorem ggX5_explains_X5_isBelow : GoodIn wsX5_explains wsX5_isBelow := goodIn_r _ [11] (by decide +kernel) (by decide +kernel)
set_option maxRecDepth 20000 in
theorem gX5_explains_X5_isBelow : GoodIn wsX5_explains (va_wsS RX5 62 yX5_isBelow wsX5_isBelow) := goodIn_app (goodIn_of _ (by decide +kernel)) ggX5_explains_X5_isBelow
set_option maxRecDepth 20000 in
theorem ggX5_explains_X3_isSound : GoodIn wsX5_explains wsX3_isSound := goodIn_r _ [15, 16, 17, 18, 5, 19, 7, 20, 21, 22, 10, 23, 24, 25, 26, 40, 41, 42] (by decide +kernel) (by decide +kernel)
set_option maxRecDepth 20000 in
theorem gX5_explains_X3_isSound : GoodIn wsX5_explains (wsV RX5 66 RX3 yX3_isSound wsX3_isSound) := goodIn_app (goodIn_of _ (by decide +kernel)) ggX5_explains_X3_isSound
set_option maxRecDepth 20000 in
theorem ggX5_explains_X3_trigger : GoodIn wsX5_explains wsX3_trigger := goodIn_r _ [30, 7, 31, 32, 33, 5, 34, 20, 9, 10, 11, 40, 41, 42] (by decide +kernel) (by decide +kernel)
set_option maxRecDepth 20000 in
theorem gX5_explains_X3_trigger : GoodIn wsX5_explains (wsV RX5 136 RX3 yX3_trigger wsX3_trigger) := goodIn_app (goodIn_of _ (by decide +kernel)) ggX5_explains_X3_trigger
theorem dX5_explains_0 : decode cX5_explains 0 = .ok (.iload_n 1, 1) := by decide +kernel
theorem dX5_explains_1 : decode cX5_explains 1 = .ok (.aload_n 0, 1) := by decide +kernel
theorem dX5_explains_2 : decode cX5_explains 2 = .ok (.getfield 10, 3) := by decide +kernel
theorem dX5_explains_5 : decode cX5_explains 5 = .ok (.invokevirtual 48, 3) := by decide +kernel
theorem dX5_explains_8 : decode cX5_explains 8 = .ok (.invokestatic 62, 3) := by decide +kernel
theorem dX5_explains_11 : decode cX5_explains 11 = .ok (.ifCond .ne 6, 3) := by decide +kernel
theorem dX5_explains_14 : decode cX5_explains 14 = .ok (.bipush (-2), 2) := by decide +kernel
theorem dX5_explains_16 : decode cX5_explains 16 = .ok (.ireturn, 1) := by decide +kernel
theorem dX5_explains_17 : decode cX5_explains 17 = .ok (.aload_n 0, 1) := by decide +kernel
theorem dX5_explains_18 : decode cX5_explains 18 = .ok (.getfield 10, 3) := by decide +kernel
theorem dX5_explains_21 : decode cX5_explains 21 = .ok (.invokevirtual 66, 3) := by decide +kernel
theorem dX5_explains_24 : decode cX5_explains 24 = .ok (.ifCond .ne 6, 3) := by decide +kernel
theorem dX5_explains_27 : decode cX5_explains 27 = .ok (.bipush (-3), 2) := by decide +kernel
theorem dX5_explains_29 : decode cX5_explains 29 = .ok (.ireturn, 1) := by decide +kernel
theorem dX5_explains_30 : decode cX5_explains 30 = .ok (.iconst 0, 1) := by decide +kernel
theorem dX5_explains_31 : decode cX5_explains 31 = .ok (.istore_n 2, 1) := by decide +kernel
theorem dX5_explains_32 : decode cX5_explains 32 = .ok (.iconst 0, 1) := by decide +kernel
theorem dX5_explains_33 : decode cX5_explains 33 = .ok (.istore_n 3, 1) := by decide +kernel
theorem dX5_explains_34 : decode cX5_explains 34 = .ok (.iload_n 3, 1) := by decide +kernel
theorem dX5_explains_35 : decode cX5_explains 35 = .ok (.iload_n 1, 1) := by decide +kernel
theorem dX5_explains_36 : decode cX5_explains 36 = .ok (.if_icmp .ge 20, 3) := by decide +kernel
theorem dX5_explains_39 : decode cX5_explains 39 = .ok (.iload_n 2, 1) := by decide +kernel
theorem dX5_explains_40 : decode cX5_explains 40 = .ok (.aload_n 0, 1) := by decide +kernel
theorem dX5_explains_41 : decode cX5_explains 41 = .ok (.getfield 10, 3) := by decide +kernel
theorem dX5_explains_44 : decode cX5_explains 44 = .ok (.iload_n 3, 1) := by decide +kernel
theorem dX5_explains_45 : decode cX5_explains 45 = .ok (.invokevirtual 136, 3) := by decide +kernel
theorem dX5_explains_48 : decode cX5_explains 48 = .ok (.ior, 1) := by decide +kernel
theorem dX5_explains_49 : decode cX5_explains 49 = .ok (.istore_n 2, 1) := by decide +kernel
theorem dX5_explains_50 : decode cX5_explains 50 = .ok (.iinc 3 1, 3) := by decide +kernel
theorem dX5_explains_53 : decode cX5_explains 53 = .ok (.goto (-19), 3) := by decide +kernel
theorem dX5_explains_56 : decode cX5_explains 56 = .ok (.aload_n 0, 1) := by decide +kernel
theorem dX5_explains_57 : decode cX5_explains 57 = .ok (.getfield 10, 3) := by decide +kernel
theorem dX5_explains_60 : decode cX5_explains 60 = .ok (.iload_n 1, 1) := by decide +kernel
theorem dX5_explains_61 : decode cX5_explains 61 = .ok (.invokevirtual 136, 3) := by decide +kernel
theorem dX5_explains_64 : decode cX5_explains 64 = .ok (.iload_n 2, 1) := by decide +kernel
theorem dX5_explains_65 : decode cX5_explains 65 = .ok (.iconst (-1), 1) := by decide +kernel
theorem dX5_explains_66 : decode cX5_explains 66 = .ok (.ixor, 1) := by decide +kernel
theorem dX5_explains_67 : decode cX5_explains 67 = .ok (.iand, 1) := by decide +kernel
theorem dX5_explains_68 : decode cX5_explains 68 = .ok (.ireturn, 1) := by decide +kernel
set_option maxRecDepth 20000 in
theorem ggX5_count_X3_size : GoodIn wsX5_count wsX3_size := goodIn_r _ [7, 8, 32, 33, 34] (by decide +kernel) (by decide +kernel)
set_option maxRecDepth 20000 in
theorem gX5_count_X3_size : GoodIn wsX5_count (wsV RX5 48 RX3 yX3_size wsX3_size) := goodIn_app (goodIn_of _ (by decide +kernel)) ggX5_count_X3_size
set_option maxRecDepth 20000 in
theorem ggX5_count_X1_size : GoodIn wsX5_count wsX1_size := goodIn_r _ [13, 14, 35, 36, 37] (by decide +kernel) (by decide +kernel)
set_option maxRecDepth 20000 in
theorem gX5_count_X1_size : GoodIn wsX5_count (wsV RX5 113 RX1 yX1_size wsX1_size) := goodIn_app (goodIn_of _ (by decide +kernel)) ggX5_count_X1_size
set_option maxRecDepth 20000 in
theorem ggX5_count_X3_moves : GoodIn wsX5_count wsX3_moves := goodIn_r _ [18, 8, 19, 20, 21, 22, 23, 24, 25, 26, 32, 33, 34] (by decide +kernel) (by decide +kernel)
set_option maxRecDepth 20000 in
theorem gX5_count_X3_moves : GoodIn wsX5_count (wsV RX5 142 RX3 yX3_moves wsX3_moves) := goodIn_app (goodIn_of _ (by decide +kernel)) ggX5_count_X3_moves
theorem dX5_count_0 : decode cX5_count 0 = .ok (.iload_n 1, 1) := by decide +kernel
theorem dX5_count_1 : decode cX5_count 1 = .ok (.ifCond .ne 11, 3) := by decide +kernel
theorem dX5_count_4 : decode cX5_count 4 = .ok (.aload_n 0, 1) := by decide +kernel
theorem dX5_count_5 : decode cX5_count 5 = .ok (.getfield 10, 3) := by decide +kernel
theorem dX5_count_8 : decode cX5_count 8 = .ok (.invokevirtual 48, 3) := by decide +kernel
theorem dX5_count_11 : decode cX5_count 11 = .ok (.ireturn, 1) := by decide +kernel
theorem dX5_count_12 : decode cX5_count 12 = .ok (.iload_n 1, 1) := by decide +kernel
theorem dX5_count_13 : decode cX5_count 13 = .ok (.iconst 1, 1) := by decide +kernel
theorem dX5_count_14 : decode cX5_count 14 = .ok (.if_icmp .ne 11, 3) := by decide +kernel
theorem dX5_count_17 : decode cX5_count 17 = .ok (.aload_n 0, 1) := by decide +kernel
theorem dX5_count_18 : decode cX5_count 18 = .ok (.getfield 26, 3) := by decide +kernel
theorem dX5_count_21 : decode cX5_count 21 = .ok (.invokevirtual 113, 3) := by decide +kernel
theorem dX5_count_24 : decode cX5_count 24 = .ok (.ireturn, 1) := by decide +kernel
theorem dX5_count_25 : decode cX5_count 25 = .ok (.iload_n 1, 1) := by decide +kernel
theorem dX5_count_26 : decode cX5_count 26 = .ok (.iconst 2, 1) := by decide +kernel
theorem dX5_count_27 : decode cX5_count 27 = .ok (.if_icmp .ne 11, 3) := by decide +kernel
theorem dX5_count_30 : decode cX5_count 30 = .ok (.aload_n 0, 1) := by decide +kernel
theorem dX5_count_31 : decode cX5_count 31 = .ok (.getfield 10, 3) := by decide +kernel
theorem dX5_count_34 : decode cX5_count 34 = .ok (.invokevirtual 142, 3) := by decide +kernel
theorem dX5_count_37 : decode cX5_count 37 = .ok (.ireturn, 1) := by decide +kernel
theorem dX5_count_38 : decode cX5_count 38 = .ok (.bipush (-2), 2) := by decide +kernel
theorem dX5_count_40 : decode cX5_count 40 = .ok (.ireturn, 1) := by decide +kernel
set_option maxRecDepth 20000 in
theorem ggX5_firstClash_X0_find : GoodIn wsX5_firstClash wsX0_find := goodIn_r _ [7, 8, 9, 10, 11, 12, 13, 14, 15, 16, 6, 17, 18, 19, 20, 21, 22, 23, 24, 25, 26, 27, 28, 29, 30, 31, 32, 33, 34, 35, 36, 37, 38, 39, 40, 41, 42, 43, 44, 45, 46, 47, 48, 88, 89, 90, 91, 92, 93] (by decide +kernel) (by decide +kernel)
set_option maxRecDepth 20000 in
theorem gX5_firstClash_X0_find : GoodIn wsX5_firstClash (wsV RX5 84 RX0 yX0_find wsX0_find) := goodIn_app (goodIn_of _ (by decide +kernel)) ggX5_firstClash_X0_find
set_option maxRecDepth 20000 in
theorem ggX5_firstClash_X3_size : GoodIn wsX5_firstClash wsX3_size := goodIn_r _ [12, 13, 88, 89, 90] (by decide +kernel) (by decide +kernel)
set_option maxRecDepth 20000 in
theorem gX5_firstClash_X3_size : GoodIn wsX5_firstClash (wsV RX5 48 RX3 yX3_size wsX3_size) := goodIn_app (goodIn_of _ (by decide +kernel)) ggX5_firstClash_X3_size
set_option maxRecDepth 20000 in
theorem ggX5_firstClash_X5_clashing : GoodIn wsX5_firstClash wsX5_clashing := goodIn_r _ [53, 2, 49, 9, 10, 11, 12, 13, 54, 55, 56, 33, 57, 1, 58, 59, 60, 61, 62, 28, 29, 30, 31, 32, 34, 63, 64, 65, 66, 67, 68, 69, 70, 71, 72, 73, 74, 75, 76, 6, 77, 47, 48, 78, 79, 80, 81, 82, 37, 38, 39, 40, 41, 42, 83, 84, 85, 86, 87, 88, 89, 90, 91, 92, 93] (by decide +kernel) (by decide +kernel)
set_option maxRecDepth 20000 in
theorem gX5_firstClash_X5_clashing : GoodIn wsX5_firstClash (wsV RX5 77 RX5 yX5_clashing wsX5_clashing) := goodIn_app (goodIn_of _ (by decide +kernel)) ggX5_firstClash_X5_clashing
theorem dX5_firstClash_0 : decode cX5_firstClash 0 = .ok (.iload_n 1, 1) := by decide +kernel
theorem dX5_firstClash_1 : decode cX5_firstClash 1 = .ok (.iconst 1, 1) := by decide +kernel
theorem dX5_firstClash_2 : decode cX5_firstClash 2 = .ok (.if_icmp .ne 14, 3) := by decide +kernel
theorem dX5_firstClash_5 : decode cX5_firstClash 5 = .ok (.aload_n 0, 1) := by decide +kernel
theorem dX5_firstClash_6 : decode cX5_firstClash 6 = .ok (.getfield 19, 3) := by decide +kernel
theorem dX5_firstClash_9 : decode cX5_firstClash 9 = .ok (.aload_n 0, 1) := by decide +kernel
theorem dX5_firstClash_10 : decode cX5_firstClash 10 = .ok (.getfield 10, 3) := by decide +kernel
theorem dX5_firstClash_13 : decode cX5_firstClash 13 = .ok (.invokevirtual 84, 3) := by decide +kernel
theorem dX5_firstClash_16 : decode cX5_firstClash 16 = .ok (.iconst 0, 1) := by decide +kernel
theorem dX5_firstClash_17 : decode cX5_firstClash 17 = .ok (.istore_n 2, 1) := by decide +kernel
theorem dX5_firstClash_18 : decode cX5_firstClash 18 = .ok (.iload_n 2, 1) := by decide +kernel
theorem dX5_firstClash_19 : decode cX5_firstClash 19 = .ok (.aload_n 0, 1) := by decide +kernel
theorem dX5_firstClash_20 : decode cX5_firstClash 20 = .ok (.getfield 10, 3) := by decide +kernel
theorem dX5_firstClash_23 : decode cX5_firstClash 23 = .ok (.invokevirtual 48, 3) := by decide +kernel
theorem dX5_firstClash_26 : decode cX5_firstClash 26 = .ok (.if_icmp .ge 20, 3) := by decide +kernel
theorem dX5_firstClash_29 : decode cX5_firstClash 29 = .ok (.aload_n 0, 1) := by decide +kernel
theorem dX5_firstClash_30 : decode cX5_firstClash 30 = .ok (.iload_n 1, 1) := by decide +kernel
theorem dX5_firstClash_31 : decode cX5_firstClash 31 = .ok (.iload_n 2, 1) := by decide +kernel
theorem dX5_firstClash_32 : decode cX5_firstClash 32 = .ok (.invokevirtual 77, 3) := by decide +kernel
theorem dX5_firstClash_35 : decode cX5_firstClash 35 = .ok (.ifCond .eq 5, 3) := by decide +kernel
theorem dX5_firstClash_38 : decode cX5_firstClash 38 = .ok (.iload_n 2, 1) := by decide +kernel
theorem dX5_firstClash_39 : decode cX5_firstClash 39 = .ok (.ireturn, 1) := by decide +kernel
theorem dX5_firstClash_40 : decode cX5_firstClash 40 = .ok (.iinc 2 1, 3) := by decide +kernel
theorem dX5_firstClash_43 : decode cX5_firstClash 43 = .ok (.goto (-25), 3) := by decide +kernel
theorem dX5_firstClash_46 : decode cX5_firstClash 46 = .ok (.iconst (-1), 1) := by decide +kernel
theorem dX5_firstClash_47 : decode cX5_firstClash 47 = .ok (.ireturn, 1) := by decide +kernel
set_option maxRecDepth 20000 in
theorem ggX5_clashing_X3_size : GoodIn wsX5_clashing wsX3_size := goodIn_r _ [6, 7, 59, 60, 61] (by decide +kernel) (by decide +kernel)
set_option maxRecDepth 20000 in
theorem gX5_clashing_X3_size : GoodIn wsX5_clashing (wsV RX5 48 RX3 yX3_size wsX3_size) := goodIn_app (goodIn_of _ (by decide +kernel)) ggX5_clashing_X3_size
set_option maxRecDepth 20000 in
theorem ggX5_clashing_X5_isPushed : GoodIn wsX5_clashing wsX5_isPushed := goodIn_r _ [12, 1, 13, 14, 15, 16, 5, 17, 7, 18, 19, 20, 21, 22, 23, 11, 24, 25, 26, 27, 28, 29, 30, 31, 32, 33, 34, 35, 36, 37, 38, 39, 40, 41, 42, 43, 44, 45, 46, 54, 55, 56, 57, 58, 59, 60, 61, 62, 63, 64] (by decide +kernel) (by decide +kernel)
set_option maxRecDepth 20000 in
theorem gX5_clashing_X5_isPushed : GoodIn wsX5_clashing (wsV RX5 145 RX5 yX5_isPushed wsX5_isPushed) := goodIn_app (goodIn_of _ (by decide +kernel)) ggX5_clashing_X5_isPushed
set_option maxRecDepth 20000 in
theorem ggX5_clashing_X3_endsOf : GoodIn wsX5_clashing wsX3_endsOf := goodIn_r _ [21, 7, 22, 23, 11, 24, 59, 60, 61] (by decide +kernel) (by decide +kernel)
set_option maxRecDepth 20000 in
theorem gX5_clashing_X3_endsOf : GoodIn wsX5_clashing (wsV RX5 123 RX3 yX3_endsOf wsX3_endsOf) := goodIn_app (goodIn_of _ (by decide +kernel)) ggX5_clashing_X3_endsOf
set_option maxRecDepth 20000 in
theorem ggX5_clashing_X5_outsOf : GoodIn wsX5_clashing wsX5_outsOf := goodIn_r _ [50] (by decide +kernel) (by decide +kernel)
set_option maxRecDepth 20000 in
theorem gX5_clashing_X5_outsOf : GoodIn wsX5_clashing (va_wsS RX5 149 yX5_outsOf wsX5_outsOf) := goodIn_app (goodIn_of _ (by decide +kernel)) ggX5_clashing_X5_outsOf
set_option maxRecDepth 20000 in
theorem ggX5_clashing_X5_insOf : GoodIn wsX5_clashing wsX5_insOf := goodIn_r _ [53] (by decide +kernel) (by decide +kernel)
set_option maxRecDepth 20000 in
theorem gX5_clashing_X5_insOf : GoodIn wsX5_clashing (va_wsS RX5 152 yX5_insOf wsX5_insOf) := goodIn_app (goodIn_of _ (by decide +kernel)) ggX5_clashing_X5_insOf
theorem dX5_clashing_0 : decode cX5_clashing 0 = .ok (.iconst 0, 1) := by decide +kernel
theorem dX5_clashing_1 : decode cX5_clashing 1 = .ok (.istore_n 3, 1) := by decide +kernel
theorem dX5_clashing_2 : decode cX5_clashing 2 = .ok (.iconst 0, 1) := by decide +kernel
theorem dX5_clashing_3 : decode cX5_clashing 3 = .ok (.istore 4, 2) := by decide +kernel
theorem dX5_clashing_5 : decode cX5_clashing 5 = .ok (.iload 4, 2) := by decide +kernel
theorem dX5_clashing_7 : decode cX5_clashing 7 = .ok (.aload_n 0, 1) := by decide +kernel
theorem dX5_clashing_8 : decode cX5_clashing 8 = .ok (.getfield 10, 3) := by decide +kernel
theorem dX5_clashing_11 : decode cX5_clashing 11 = .ok (.invokevirtual 48, 3) := by decide +kernel
theorem dX5_clashing_14 : decode cX5_clashing 14 = .ok (.if_icmp .ge 32, 3) := by decide +kernel
theorem dX5_clashing_17 : decode cX5_clashing 17 = .ok (.aload_n 0, 1) := by decide +kernel
theorem dX5_clashing_18 : decode cX5_clashing 18 = .ok (.iload_n 1, 1) := by decide +kernel
theorem dX5_clashing_19 : decode cX5_clashing 19 = .ok (.iload 4, 2) := by decide +kernel
theorem dX5_clashing_21 : decode cX5_clashing 21 = .ok (.iload_n 2, 1) := by decide +kernel
theorem dX5_clashing_22 : decode cX5_clashing 22 = .ok (.invokevirtual 145, 3) := by decide +kernel
theorem dX5_clashing_25 : decode cX5_clashing 25 = .ok (.ifCond .eq 15, 3) := by decide +kernel
theorem dX5_clashing_28 : decode cX5_clashing 28 = .ok (.iload_n 3, 1) := by decide +kernel
theorem dX5_clashing_29 : decode cX5_clashing 29 = .ok (.aload_n 0, 1) := by decide +kernel
theorem dX5_clashing_30 : decode cX5_clashing 30 = .ok (.getfield 10, 3) := by decide +kernel
theorem dX5_clashing_33 : decode cX5_clashing 33 = .ok (.iload 4, 2) := by decide +kernel
theorem dX5_clashing_35 : decode cX5_clashing 35 = .ok (.invokevirtual 123, 3) := by decide +kernel
theorem dX5_clashing_38 : decode cX5_clashing 38 = .ok (.ior, 1) := by decide +kernel
theorem dX5_clashing_39 : decode cX5_clashing 39 = .ok (.istore_n 3, 1) := by decide +kernel
theorem dX5_clashing_40 : decode cX5_clashing 40 = .ok (.iinc 4 1, 3) := by decide +kernel
theorem dX5_clashing_43 : decode cX5_clashing 43 = .ok (.goto (-38), 3) := by decide +kernel
theorem dX5_clashing_46 : decode cX5_clashing 46 = .ok (.aload_n 0, 1) := by decide +kernel
theorem dX5_clashing_47 : decode cX5_clashing 47 = .ok (.getfield 10, 3) := by decide +kernel
theorem dX5_clashing_50 : decode cX5_clashing 50 = .ok (.iload_n 2, 1) := by decide +kernel
theorem dX5_clashing_51 : decode cX5_clashing 51 = .ok (.invokevirtual 123, 3) := by decide +kernel
theorem dX5_clashing_54 : decode cX5_clashing 54 = .ok (.istore 4, 2) := by decide +kernel
theorem dX5_clashing_56 : decode cX5_clashing 56 = .ok (.iload 4, 2) := by decide +kernel
theorem dX5_clashing_58 : decode cX5_clashing 58 = .ok (.invokestatic 149, 3) := by decide +kernel
theorem dX5_clashing_61 : decode cX5_clashing 61 = .ok (.iload_n 3, 1) := by decide +kernel
theorem dX5_clashing_62 : decode cX5_clashing 62 = .ok (.invokestatic 152, 3) := by decide +kernel
theorem dX5_clashing_65 : decode cX5_clashing 65 = .ok (.iand, 1) := by decide +kernel
theorem dX5_clashing_66 : decode cX5_clashing 66 = .ok (.iload 4, 2) := by decide +kernel
theorem dX5_clashing_68 : decode cX5_clashing 68 = .ok (.invokestatic 152, 3) := by decide +kernel
theorem dX5_clashing_71 : decode cX5_clashing 71 = .ok (.iload_n 3, 1) := by decide +kernel
theorem dX5_clashing_72 : decode cX5_clashing 72 = .ok (.invokestatic 149, 3) := by decide +kernel
theorem dX5_clashing_75 : decode cX5_clashing 75 = .ok (.iand, 1) := by decide +kernel
theorem dX5_clashing_76 : decode cX5_clashing 76 = .ok (.ior, 1) := by decide +kernel
theorem dX5_clashing_77 : decode cX5_clashing 77 = .ok (.ireturn, 1) := by decide +kernel
set_option maxRecDepth 20000 in
theorem ggX5_isPushed_X3_trigger : GoodIn wsX5_isPushed wsX3_trigger := goodIn_r _ [7, 8, 9, 10, 11, 6, 12, 13, 14, 15, 16, 44, 45, 46] (by decide +kernel) (by decide +kernel)
set_option maxRecDepth 20000 in
theorem gX5_isPushed_X3_trigger : GoodIn wsX5_isPushed (wsV RX5 136 RX3 yX3_trigger wsX3_trigger) := goodIn_app (goodIn_of _ (by decide +kernel)) ggX5_isPushed_X3_trigger
set_option maxRecDepth 20000 in
theorem ggX5_isPushed_X3_stateAt : GoodIn wsX5_isPushed wsX3_stateAt := goodIn_r _ [20, 8, 21, 14, 15, 16, 44, 45, 46] (by decide +kernel) (by decide +kernel)
set_option maxRecDepth 20000 in
theorem gX5_isPushed_X3_stateAt : GoodIn wsX5_isPushed (wsV RX5 70 RX3 yX3_stateAt wsX3_stateAt) := goodIn_app (goodIn_of _ (by decide +kernel)) ggX5_isPushed_X3_stateAt
set_option maxRecDepth 20000 in
theorem ggX5_isPushed_X5_sensorsOn : GoodIn wsX5_isPushed wsX5_sensorsOn := goodIn_r _ [24, 25, 26, 15, 27] (by decide +kernel) (by decide +kernel)
set_option maxRecDepth 20000 in
theorem gX5_isPushed_X5_sensorsOn : GoodIn wsX5_isPushed (va_wsS RX5 155 yX5_sensorsOn wsX5_sensorsOn) := goodIn_app (goodIn_of _ (by decide +kernel)) ggX5_isPushed_X5_sensorsOn
set_option maxRecDepth 20000 in
theorem ggX5_isPushed_X0_groupOf : GoodIn wsX5_isPushed wsX0_groupOf := goodIn_r _ [32, 33, 34, 47, 48, 49] (by decide +kernel) (by decide +kernel)
set_option maxRecDepth 20000 in
theorem gX5_isPushed_X0_groupOf : GoodIn wsX5_isPushed (wsV RX5 158 RX0 yX0_groupOf wsX0_groupOf) := goodIn_app (goodIn_of _ (by decide +kernel)) ggX5_isPushed_X0_groupOf
set_option maxRecDepth 20000 in
theorem ggX5_isPushed_X0_isFirst : GoodIn wsX5_isPushed wsX0_isFirst := goodIn_r _ [38, 33, 34, 47, 48, 49] (by decide +kernel) (by decide +kernel)
set_option maxRecDepth 20000 in
theorem gX5_isPushed_X0_isFirst : GoodIn wsX5_isPushed (wsV RX5 161 RX0 yX0_isFirst wsX0_isFirst) := goodIn_app (goodIn_of _ (by decide +kernel)) ggX5_isPushed_X0_isFirst
theorem dX5_isPushed_0 : decode cX5_isPushed 0 = .ok (.aload_n 0, 1) := by decide +kernel
theorem dX5_isPushed_1 : decode cX5_isPushed 1 = .ok (.getfield 10, 3) := by decide +kernel
theorem dX5_isPushed_4 : decode cX5_isPushed 4 = .ok (.iload_n 2, 1) := by decide +kernel
theorem dX5_isPushed_5 : decode cX5_isPushed 5 = .ok (.invokevirtual 136, 3) := by decide +kernel
theorem dX5_isPushed_8 : decode cX5_isPushed 8 = .ok (.aload_n 0, 1) := by decide +kernel
theorem dX5_isPushed_9 : decode cX5_isPushed 9 = .ok (.getfield 10, 3) := by decide +kernel
theorem dX5_isPushed_12 : decode cX5_isPushed 12 = .ok (.iload_n 3, 1) := by decide +kernel
theorem dX5_isPushed_13 : decode cX5_isPushed 13 = .ok (.invokevirtual 70, 3) := by decide +kernel
theorem dX5_isPushed_16 : decode cX5_isPushed 16 = .ok (.invokestatic 155, 3) := by decide +kernel
theorem dX5_isPushed_19 : decode cX5_isPushed 19 = .ok (.iconst (-1), 1) := by decide +kernel
theorem dX5_isPushed_20 : decode cX5_isPushed 20 = .ok (.ixor, 1) := by decide +kernel
theorem dX5_isPushed_21 : decode cX5_isPushed 21 = .ok (.iand, 1) := by decide +kernel
theorem dX5_isPushed_22 : decode cX5_isPushed 22 = .ok (.ifCond .ne 7, 3) := by decide +kernel
theorem dX5_isPushed_25 : decode cX5_isPushed 25 = .ok (.iconst 1, 1) := by decide +kernel
theorem dX5_isPushed_26 : decode cX5_isPushed 26 = .ok (.goto 4, 3) := by decide +kernel
theorem dX5_isPushed_29 : decode cX5_isPushed 29 = .ok (.iconst 0, 1) := by decide +kernel
theorem dX5_isPushed_30 : decode cX5_isPushed 30 = .ok (.istore 4, 2) := by decide +kernel
theorem dX5_isPushed_32 : decode cX5_isPushed 32 = .ok (.iload_n 1, 1) := by decide +kernel
theorem dX5_isPushed_33 : decode cX5_isPushed 33 = .ok (.ifCond .ne 6, 3) := by decide +kernel
theorem dX5_isPushed_36 : decode cX5_isPushed 36 = .ok (.iload 4, 2) := by decide +kernel
theorem dX5_isPushed_38 : decode cX5_isPushed 38 = .ok (.ireturn, 1) := by decide +kernel
theorem dX5_isPushed_39 : decode cX5_isPushed 39 = .ok (.aload_n 0, 1) := by decide +kernel
theorem dX5_isPushed_40 : decode cX5_isPushed 40 = .ok (.getfield 19, 3) := by decide +kernel
theorem dX5_isPushed_43 : decode cX5_isPushed 43 = .ok (.iload_n 2, 1) := by decide +kernel
theorem dX5_isPushed_44 : decode cX5_isPushed 44 = .ok (.invokevirtual 158, 3) := by decide +kernel
theorem dX5_isPushed_47 : decode cX5_isPushed 47 = .ok (.aload_n 0, 1) := by decide +kernel
theorem dX5_isPushed_48 : decode cX5_isPushed 48 = .ok (.getfield 19, 3) := by decide +kernel
theorem dX5_isPushed_51 : decode cX5_isPushed 51 = .ok (.iload_n 3, 1) := by decide +kernel
theorem dX5_isPushed_52 : decode cX5_isPushed 52 = .ok (.invokevirtual 158, 3) := by decide +kernel
theorem dX5_isPushed_55 : decode cX5_isPushed 55 = .ok (.if_icmp .ne 23, 3) := by decide +kernel
theorem dX5_isPushed_58 : decode cX5_isPushed 58 = .ok (.aload_n 0, 1) := by decide +kernel
theorem dX5_isPushed_59 : decode cX5_isPushed 59 = .ok (.getfield 19, 3) := by decide +kernel
theorem dX5_isPushed_62 : decode cX5_isPushed 62 = .ok (.iload_n 2, 1) := by decide +kernel
theorem dX5_isPushed_63 : decode cX5_isPushed 63 = .ok (.invokevirtual 161, 3) := by decide +kernel
theorem dX5_isPushed_66 : decode cX5_isPushed 66 = .ok (.ifCond .ne 8, 3) := by decide +kernel
theorem dX5_isPushed_69 : decode cX5_isPushed 69 = .ok (.iload 4, 2) := by decide +kernel
theorem dX5_isPushed_71 : decode cX5_isPushed 71 = .ok (.ifCond .eq 7, 3) := by decide +kernel
theorem dX5_isPushed_74 : decode cX5_isPushed 74 = .ok (.iconst 1, 1) := by decide +kernel
theorem dX5_isPushed_75 : decode cX5_isPushed 75 = .ok (.goto 4, 3) := by decide +kernel
theorem dX5_isPushed_78 : decode cX5_isPushed 78 = .ok (.iconst 0, 1) := by decide +kernel
theorem dX5_isPushed_79 : decode cX5_isPushed 79 = .ok (.ireturn, 1) := by decide +kernel
theorem dX5_isBelow_0 : decode cX5_isBelow 0 = .ok (.iload_n 0, 1) := by decide +kernel
theorem dX5_isBelow_1 : decode cX5_isBelow 1 = .ok (.ifCond .lt 12, 3) := by decide +kernel
theorem dX5_isBelow_4 : decode cX5_isBelow 4 = .ok (.iload_n 0, 1) := by decide +kernel
theorem dX5_isBelow_5 : decode cX5_isBelow 5 = .ok (.iload_n 1, 1) := by decide +kernel
theorem dX5_isBelow_6 : decode cX5_isBelow 6 = .ok (.if_icmp .ge 7, 3) := by decide +kernel
theorem dX5_isBelow_9 : decode cX5_isBelow 9 = .ok (.iconst 1, 1) := by decide +kernel
theorem dX5_isBelow_10 : decode cX5_isBelow 10 = .ok (.goto 4, 3) := by decide +kernel
theorem dX5_isBelow_13 : decode cX5_isBelow 13 = .ok (.iconst 0, 1) := by decide +kernel
theorem dX5_isBelow_14 : decode cX5_isBelow 14 = .ok (.ireturn, 1) := by decide +kernel
set_option maxRecDepth 20000 in
theorem ggX5_isState_X5_isBelow : GoodIn wsX5_isState wsX5_isBelow := goodIn_r _ [4] (by decide +kernel) (by decide +kernel)
set_option maxRecDepth 20000 in
theorem gX5_isState_X5_isBelow : GoodIn wsX5_isState (va_wsS RX5 62 yX5_isBelow wsX5_isBelow) := goodIn_app (goodIn_of _ (by decide +kernel)) ggX5_isState_X5_isBelow
theorem dX5_isState_0 : decode cX5_isState 0 = .ok (.iload_n 0, 1) := by decide +kernel
theorem dX5_isState_1 : decode cX5_isState 1 = .ok (.bipush 64, 2) := by decide +kernel
theorem dX5_isState_3 : decode cX5_isState 3 = .ok (.invokestatic 62, 3) := by decide +kernel
theorem dX5_isState_6 : decode cX5_isState 6 = .ok (.ireturn, 1) := by decide +kernel
theorem dX5_has_0 : decode cX5_has 0 = .ok (.iload_n 0, 1) := by decide +kernel
theorem dX5_has_1 : decode cX5_has 1 = .ok (.iload_n 1, 1) := by decide +kernel
theorem dX5_has_2 : decode cX5_has 2 = .ok (.ishr, 1) := by decide +kernel
theorem dX5_has_3 : decode cX5_has 3 = .ok (.iconst 1, 1) := by decide +kernel
theorem dX5_has_4 : decode cX5_has 4 = .ok (.iand, 1) := by decide +kernel
theorem dX5_has_5 : decode cX5_has 5 = .ok (.ifCond .eq 7, 3) := by decide +kernel
theorem dX5_has_8 : decode cX5_has 8 = .ok (.iconst 1, 1) := by decide +kernel
theorem dX5_has_9 : decode cX5_has 9 = .ok (.goto 4, 3) := by decide +kernel
theorem dX5_has_12 : decode cX5_has 12 = .ok (.iconst 0, 1) := by decide +kernel
theorem dX5_has_13 : decode cX5_has 13 = .ok (.ireturn, 1) := by decide +kernel
set_option maxRecDepth 20000 in
theorem ggX5_leastOf_X5_has : GoodIn wsX5_leastOf wsX5_has := goodIn_r _ [4] (by decide +kernel) (by decide +kernel)
set_option maxRecDepth 20000 in
theorem gX5_leastOf_X5_has : GoodIn wsX5_leastOf (va_wsS RX5 139 yX5_has wsX5_has) := goodIn_app (goodIn_of _ (by decide +kernel)) ggX5_leastOf_X5_has
theorem dX5_leastOf_0 : decode cX5_leastOf 0 = .ok (.iconst 0, 1) := by decide +kernel
theorem dX5_leastOf_1 : decode cX5_leastOf 1 = .ok (.istore_n 1, 1) := by decide +kernel
theorem dX5_leastOf_2 : decode cX5_leastOf 2 = .ok (.iload_n 1, 1) := by decide +kernel
theorem dX5_leastOf_3 : decode cX5_leastOf 3 = .ok (.bipush 6, 2) := by decide +kernel
theorem dX5_leastOf_5 : decode cX5_leastOf 5 = .ok (.if_icmp .ge 19, 3) := by decide +kernel
theorem dX5_leastOf_8 : decode cX5_leastOf 8 = .ok (.iload_n 0, 1) := by decide +kernel
theorem dX5_leastOf_9 : decode cX5_leastOf 9 = .ok (.iload_n 1, 1) := by decide +kernel
theorem dX5_leastOf_10 : decode cX5_leastOf 10 = .ok (.invokestatic 139, 3) := by decide +kernel
theorem dX5_leastOf_13 : decode cX5_leastOf 13 = .ok (.ifCond .eq 5, 3) := by decide +kernel
theorem dX5_leastOf_16 : decode cX5_leastOf 16 = .ok (.iload_n 1, 1) := by decide +kernel
theorem dX5_leastOf_17 : decode cX5_leastOf 17 = .ok (.ireturn, 1) := by decide +kernel
theorem dX5_leastOf_18 : decode cX5_leastOf 18 = .ok (.iinc 1 1, 3) := by decide +kernel
theorem dX5_leastOf_21 : decode cX5_leastOf 21 = .ok (.goto (-19), 3) := by decide +kernel
theorem dX5_leastOf_24 : decode cX5_leastOf 24 = .ok (.iconst (-1), 1) := by decide +kernel
theorem dX5_leastOf_25 : decode cX5_leastOf 25 = .ok (.ireturn, 1) := by decide +kernel
theorem dX5_endOf_0 : decode cX5_endOf 0 = .ok (.iload_n 1, 1) := by decide +kernel
theorem dX5_endOf_1 : decode cX5_endOf 1 = .ok (.ifCond .eq 10, 3) := by decide +kernel
theorem dX5_endOf_4 : decode cX5_endOf 4 = .ok (.iload_n 0, 1) := by decide +kernel
theorem dX5_endOf_5 : decode cX5_endOf 5 = .ok (.bipush 6, 2) := by decide +kernel
theorem dX5_endOf_7 : decode cX5_endOf 7 = .ok (.iadd, 1) := by decide +kernel
theorem dX5_endOf_8 : decode cX5_endOf 8 = .ok (.goto 4, 3) := by decide +kernel
theorem dX5_endOf_11 : decode cX5_endOf 11 = .ok (.iload_n 0, 1) := by decide +kernel
theorem dX5_endOf_12 : decode cX5_endOf 12 = .ok (.ireturn, 1) := by decide +kernel
theorem dX5_cylinderOf_0 : decode cX5_cylinderOf 0 = .ok (.iload_n 0, 1) := by decide +kernel
theorem dX5_cylinderOf_1 : decode cX5_cylinderOf 1 = .ok (.bipush 6, 2) := by decide +kernel
theorem dX5_cylinderOf_3 : decode cX5_cylinderOf 3 = .ok (.if_icmp .ge 7, 3) := by decide +kernel
theorem dX5_cylinderOf_6 : decode cX5_cylinderOf 6 = .ok (.iload_n 0, 1) := by decide +kernel
theorem dX5_cylinderOf_7 : decode cX5_cylinderOf 7 = .ok (.goto 7, 3) := by decide +kernel
theorem dX5_cylinderOf_10 : decode cX5_cylinderOf 10 = .ok (.iload_n 0, 1) := by decide +kernel
theorem dX5_cylinderOf_11 : decode cX5_cylinderOf 11 = .ok (.bipush 6, 2) := by decide +kernel
theorem dX5_cylinderOf_13 : decode cX5_cylinderOf 13 = .ok (.isub, 1) := by decide +kernel
theorem dX5_cylinderOf_14 : decode cX5_cylinderOf 14 = .ok (.ireturn, 1) := by decide +kernel
theorem dX5_endsTo_0 : decode cX5_endsTo 0 = .ok (.iload_n 0, 1) := by decide +kernel
theorem dX5_endsTo_1 : decode cX5_endsTo 1 = .ok (.bipush 6, 2) := by decide +kernel
theorem dX5_endsTo_3 : decode cX5_endsTo 3 = .ok (.ishl, 1) := by decide +kernel
theorem dX5_endsTo_4 : decode cX5_endsTo 4 = .ok (.iload_n 1, 1) := by decide +kernel
theorem dX5_endsTo_5 : decode cX5_endsTo 5 = .ok (.ior, 1) := by decide +kernel
theorem dX5_endsTo_6 : decode cX5_endsTo 6 = .ok (.ireturn, 1) := by decide +kernel
theorem dX5_outsOf_0 : decode cX5_outsOf 0 = .ok (.iload_n 0, 1) := by decide +kernel
theorem dX5_outsOf_1 : decode cX5_outsOf 1 = .ok (.bipush 6, 2) := by decide +kernel
theorem dX5_outsOf_3 : decode cX5_outsOf 3 = .ok (.ishr, 1) := by decide +kernel
theorem dX5_outsOf_4 : decode cX5_outsOf 4 = .ok (.ireturn, 1) := by decide +kernel
theorem dX5_insOf_0 : decode cX5_insOf 0 = .ok (.iload_n 0, 1) := by decide +kernel
theorem dX5_insOf_1 : decode cX5_insOf 1 = .ok (.bipush 63, 2) := by decide +kernel
theorem dX5_insOf_3 : decode cX5_insOf 3 = .ok (.iand, 1) := by decide +kernel
theorem dX5_insOf_4 : decode cX5_insOf 4 = .ok (.ireturn, 1) := by decide +kernel
set_option maxRecDepth 20000 in
theorem ggX5_cylindersOf_X5_outsOf : GoodIn wsX5_cylindersOf wsX5_outsOf := goodIn_r _ [4] (by decide +kernel) (by decide +kernel)
set_option maxRecDepth 20000 in
theorem gX5_cylindersOf_X5_outsOf : GoodIn wsX5_cylindersOf (va_wsS RX5 149 yX5_outsOf wsX5_outsOf) := goodIn_app (goodIn_of _ (by decide +kernel)) ggX5_cylindersOf_X5_outsOf
set_option maxRecDepth 20000 in
theorem ggX5_cylindersOf_X5_insOf : GoodIn wsX5_cylindersOf wsX5_insOf := goodIn_r _ [7] (by decide +kernel) (by decide +kernel)
set_option maxRecDepth 20000 in
theorem gX5_cylindersOf_X5_insOf : GoodIn wsX5_cylindersOf (va_wsS RX5 152 yX5_insOf wsX5_insOf) := goodIn_app (goodIn_of _ (by decide +kernel)) ggX5_cylindersOf_X5_insOf
theorem dX5_cylindersOf_0 : decode cX5_cylindersOf 0 = .ok (.iload_n 0, 1) := by decide +kernel
theorem dX5_cylindersOf_1 : decode cX5_cylindersOf 1 = .ok (.invokestatic 149, 3) := by decide +kernel
theorem dX5_cylindersOf_4 : decode cX5_cylindersOf 4 = .ok (.iload_n 0, 1) := by decide +kernel
theorem dX5_cylindersOf_5 : decode cX5_cylindersOf 5 = .ok (.invokestatic 152, 3) := by decide +kernel
theorem dX5_cylindersOf_8 : decode cX5_cylindersOf 8 = .ok (.ior, 1) := by decide +kernel
theorem dX5_cylindersOf_9 : decode cX5_cylindersOf 9 = .ok (.ireturn, 1) := by decide +kernel
set_option maxRecDepth 20000 in
theorem ggX5_sensorsOn_X5_endsTo : GoodIn wsX5_sensorsOn wsX5_endsTo := goodIn_r _ [4] (by decide +kernel) (by decide +kernel)
set_option maxRecDepth 20000 in
theorem gX5_sensorsOn_X5_endsTo : GoodIn wsX5_sensorsOn (va_wsS RX5 164 yX5_endsTo wsX5_endsTo) := goodIn_app (goodIn_of _ (by decide +kernel)) ggX5_sensorsOn_X5_endsTo
theorem dX5_sensorsOn_0 : decode cX5_sensorsOn 0 = .ok (.iload_n 0, 1) := by decide +kernel
theorem dX5_sensorsOn_1 : decode cX5_sensorsOn 1 = .ok (.iload_n 0, 1) := by decide +kernel
theorem dX5_sensorsOn_2 : decode cX5_sensorsOn 2 = .ok (.iconst (-1), 1) := by decide +kernel
theorem dX5_sensorsOn_3 : decode cX5_sensorsOn 3 = .ok (.ixor, 1) := by decide +kernel
theorem dX5_sensorsOn_4 : decode cX5_sensorsOn 4 = .ok (.bipush 63, 2) := by decide +kernel
theorem dX5_sensorsOn_6 : decode cX5_sensorsOn 6 = .ok (.iand, 1) := by decide +kernel
theorem dX5_sensorsOn_7 : decode cX5_sensorsOn 7 = .ok (.invokestatic 164, 3) := by decide +kernel
theorem dX5_sensorsOn_10 : decode cX5_sensorsOn 10 = .ok (.ireturn, 1) := by decide +kernel
theorem dX6_init_0 : decode cX6_init 0 = .ok (.aload_n 0, 1) := by decide +kernel
theorem dX6_init_1 : decode cX6_init 1 = .ok (.invokespecial 1, 3) := by decide +kernel
theorem dX6_init_4 : decode cX6_init 4 = .ok (.aload_n 0, 1) := by decide +kernel
theorem dX6_init_5 : decode cX6_init 5 = .ok (.bipush 16, 2) := by decide +kernel
theorem dX6_init_7 : decode cX6_init 7 = .ok (.newarray .int, 2) := by decide +kernel
theorem dX6_init_9 : decode cX6_init 9 = .ok (.putfield 7, 3) := by decide +kernel
theorem dX6_init_12 : decode cX6_init 12 = .ok (.aload_n 0, 1) := by decide +kernel
theorem dX6_init_13 : decode cX6_init 13 = .ok (.bipush 16, 2) := by decide +kernel
theorem dX6_init_15 : decode cX6_init 15 = .ok (.newarray .int, 2) := by decide +kernel
theorem dX6_init_17 : decode cX6_init 17 = .ok (.putfield 13, 3) := by decide +kernel
theorem dX6_init_20 : decode cX6_init 20 = .ok (.aload_n 0, 1) := by decide +kernel
theorem dX6_init_21 : decode cX6_init 21 = .ok (.bipush 12, 2) := by decide +kernel
theorem dX6_init_23 : decode cX6_init 23 = .ok (.newarray .int, 2) := by decide +kernel
theorem dX6_init_25 : decode cX6_init 25 = .ok (.putfield 16, 3) := by decide +kernel
theorem dX6_init_28 : decode cX6_init 28 = .ok (.aload_n 0, 1) := by decide +kernel
theorem dX6_init_29 : decode cX6_init 29 = .ok (.bipush 12, 2) := by decide +kernel
theorem dX6_init_31 : decode cX6_init 31 = .ok (.newarray .int, 2) := by decide +kernel
theorem dX6_init_33 : decode cX6_init 33 = .ok (.putfield 19, 3) := by decide +kernel
theorem dX6_init_36 : decode cX6_init 36 = .ok (.aload_n 0, 1) := by decide +kernel
theorem dX6_init_37 : decode cX6_init 37 = .ok (.bipush 12, 2) := by decide +kernel
theorem dX6_init_39 : decode cX6_init 39 = .ok (.newarray .int, 2) := by decide +kernel
theorem dX6_init_41 : decode cX6_init 41 = .ok (.putfield 22, 3) := by decide +kernel
theorem dX6_init_44 : decode cX6_init 44 = .ok (.aload_n 0, 1) := by decide +kernel
theorem dX6_init_45 : decode cX6_init 45 = .ok (.bipush 12, 2) := by decide +kernel
theorem dX6_init_47 : decode cX6_init 47 = .ok (.newarray .boolean, 2) := by decide +kernel
theorem dX6_init_49 : decode cX6_init 49 = .ok (.putfield 25, 3) := by decide +kernel
theorem dX6_init_52 : decode cX6_init 52 = .ok (.aload_n 0, 1) := by decide +kernel
theorem dX6_init_53 : decode cX6_init 53 = .ok (.bipush 12, 2) := by decide +kernel
theorem dX6_init_55 : decode cX6_init 55 = .ok (.newarray .int, 2) := by decide +kernel
theorem dX6_init_57 : decode cX6_init 57 = .ok (.putfield 29, 3) := by decide +kernel
theorem dX6_init_60 : decode cX6_init 60 = .ok (.aload_n 0, 1) := by decide +kernel
theorem dX6_init_61 : decode cX6_init 61 = .ok (.bipush 12, 2) := by decide +kernel
theorem dX6_init_63 : decode cX6_init 63 = .ok (.newarray .boolean, 2) := by decide +kernel
theorem dX6_init_65 : decode cX6_init 65 = .ok (.putfield 32, 3) := by decide +kernel
theorem dX6_init_68 : decode cX6_init 68 = .ok (.aload_n 0, 1) := by decide +kernel
theorem dX6_init_69 : decode cX6_init 69 = .ok (.bipush 17, 2) := by decide +kernel
theorem dX6_init_71 : decode cX6_init 71 = .ok (.newarray .int, 2) := by decide +kernel
theorem dX6_init_73 : decode cX6_init 73 = .ok (.putfield 35, 3) := by decide +kernel
theorem dX6_init_76 : decode cX6_init 76 = .ok (.aload_n 0, 1) := by decide +kernel
theorem dX6_init_77 : decode cX6_init 77 = .ok (.bipush 64, 2) := by decide +kernel
theorem dX6_init_79 : decode cX6_init 79 = .ok (.newarray .int, 2) := by decide +kernel
theorem dX6_init_81 : decode cX6_init 81 = .ok (.putfield 38, 3) := by decide +kernel
theorem dX6_init_84 : decode cX6_init 84 = .ok (.iconst 0, 1) := by decide +kernel
theorem dX6_init_85 : decode cX6_init 85 = .ok (.istore_n 1, 1) := by decide +kernel
theorem dX6_init_86 : decode cX6_init 86 = .ok (.iload_n 1, 1) := by decide +kernel
theorem dX6_init_87 : decode cX6_init 87 = .ok (.bipush 12, 2) := by decide +kernel
theorem dX6_init_89 : decode cX6_init 89 = .ok (.if_icmp .ge 23, 3) := by decide +kernel
theorem dX6_init_92 : decode cX6_init 92 = .ok (.aload_n 0, 1) := by decide +kernel
theorem dX6_init_93 : decode cX6_init 93 = .ok (.getfield 16, 3) := by decide +kernel
theorem dX6_init_96 : decode cX6_init 96 = .ok (.iload_n 1, 1) := by decide +kernel
theorem dX6_init_97 : decode cX6_init 97 = .ok (.iconst 1, 1) := by decide +kernel
theorem dX6_init_98 : decode cX6_init 98 = .ok (.iastore, 1) := by decide +kernel
theorem dX6_init_99 : decode cX6_init 99 = .ok (.aload_n 0, 1) := by decide +kernel
theorem dX6_init_100 : decode cX6_init 100 = .ok (.getfield 19, 3) := by decide +kernel
theorem dX6_init_103 : decode cX6_init 103 = .ok (.iload_n 1, 1) := by decide +kernel
theorem dX6_init_104 : decode cX6_init 104 = .ok (.iconst 1, 1) := by decide +kernel
theorem dX6_init_105 : decode cX6_init 105 = .ok (.iastore, 1) := by decide +kernel
theorem dX6_init_106 : decode cX6_init 106 = .ok (.iinc 1 1, 3) := by decide +kernel
theorem dX6_init_109 : decode cX6_init 109 = .ok (.goto (-23), 3) := by decide +kernel
theorem dX6_init_112 : decode cX6_init 112 = .ok (.return_, 1) := by decide +kernel
theorem dX6_in_0 : decode cX6_in 0 = .ok (.iload_n 0, 1) := by decide +kernel
theorem dX6_in_1 : decode cX6_in 1 = .ok (.iload_n 1, 1) := by decide +kernel
theorem dX6_in_2 : decode cX6_in 2 = .ok (.if_icmp .lt 12, 3) := by decide +kernel
theorem dX6_in_5 : decode cX6_in 5 = .ok (.iload_n 0, 1) := by decide +kernel
theorem dX6_in_6 : decode cX6_in 6 = .ok (.iload_n 2, 1) := by decide +kernel
theorem dX6_in_7 : decode cX6_in 7 = .ok (.if_icmp .gt 7, 3) := by decide +kernel
theorem dX6_in_10 : decode cX6_in 10 = .ok (.iconst 1, 1) := by decide +kernel
theorem dX6_in_11 : decode cX6_in 11 = .ok (.goto 4, 3) := by decide +kernel
theorem dX6_in_14 : decode cX6_in 14 = .ok (.iconst 0, 1) := by decide +kernel
theorem dX6_in_15 : decode cX6_in 15 = .ok (.ireturn, 1) := by decide +kernel
theorem dX6_ones_0 : decode cX6_ones 0 = .ok (.iconst 0, 1) := by decide +kernel
theorem dX6_ones_1 : decode cX6_ones 1 = .ok (.istore_n 1, 1) := by decide +kernel
theorem dX6_ones_2 : decode cX6_ones 2 = .ok (.iconst 0, 1) := by decide +kernel
theorem dX6_ones_3 : decode cX6_ones 3 = .ok (.istore_n 2, 1) := by decide +kernel
theorem dX6_ones_4 : decode cX6_ones 4 = .ok (.iload_n 2, 1) := by decide +kernel
theorem dX6_ones_5 : decode cX6_ones 5 = .ok (.bipush 16, 2) := by decide +kernel
theorem dX6_ones_7 : decode cX6_ones 7 = .ok (.if_icmp .ge 17, 3) := by decide +kernel
theorem dX6_ones_10 : decode cX6_ones 10 = .ok (.iload_n 1, 1) := by decide +kernel
theorem dX6_ones_11 : decode cX6_ones 11 = .ok (.iload_n 0, 1) := by decide +kernel
theorem dX6_ones_12 : decode cX6_ones 12 = .ok (.iload_n 2, 1) := by decide +kernel
theorem dX6_ones_13 : decode cX6_ones 13 = .ok (.ishr, 1) := by decide +kernel
theorem dX6_ones_14 : decode cX6_ones 14 = .ok (.iconst 1, 1) := by decide +kernel
theorem dX6_ones_15 : decode cX6_ones 15 = .ok (.iand, 1) := by decide +kernel
theorem dX6_ones_16 : decode cX6_ones 16 = .ok (.iadd, 1) := by decide +kernel
theorem dX6_ones_17 : decode cX6_ones 17 = .ok (.istore_n 1, 1) := by decide +kernel
theorem dX6_ones_18 : decode cX6_ones 18 = .ok (.iinc 2 1, 3) := by decide +kernel
theorem dX6_ones_21 : decode cX6_ones 21 = .ok (.goto (-17), 3) := by decide +kernel
theorem dX6_ones_24 : decode cX6_ones 24 = .ok (.iload_n 1, 1) := by decide +kernel
theorem dX6_ones_25 : decode cX6_ones 25 = .ok (.ireturn, 1) := by decide +kernel
set_option maxRecDepth 20000 in
theorem ggX6_step_X6_in : GoodIn wsX6_step wsX6_in := goodIn_r _ [7] (by decide +kernel) (by decide +kernel)
set_option maxRecDepth 20000 in
theorem gX6_step_X6_in : GoodIn wsX6_step (va_wsS RX6 41 yX6_in wsX6_in) := goodIn_app (goodIn_of _ (by decide +kernel)) ggX6_step_X6_in
theorem dX6_step_0 : decode cX6_step 0 = .ok (.iload_n 1, 1) := by decide +kernel
theorem dX6_step_1 : decode cX6_step 1 = .ok (.iconst 0, 1) := by decide +kernel
theorem dX6_step_2 : decode cX6_step 2 = .ok (.bipush 63, 2) := by decide +kernel
theorem dX6_step_4 : decode cX6_step 4 = .ok (.invokestatic 41, 3) := by decide +kernel
theorem dX6_step_7 : decode cX6_step 7 = .ok (.ifCond .eq 25, 3) := by decide +kernel
theorem dX6_step_10 : decode cX6_step 10 = .ok (.iload_n 2, 1) := by decide +kernel
theorem dX6_step_11 : decode cX6_step 11 = .ok (.iconst 0, 1) := by decide +kernel
theorem dX6_step_12 : decode cX6_step 12 = .ok (.bipush 63, 2) := by decide +kernel
theorem dX6_step_14 : decode cX6_step 14 = .ok (.invokestatic 41, 3) := by decide +kernel
theorem dX6_step_17 : decode cX6_step 17 = .ok (.ifCond .eq 15, 3) := by decide +kernel
theorem dX6_step_20 : decode cX6_step 20 = .ok (.iload_n 1, 1) := by decide +kernel
theorem dX6_step_21 : decode cX6_step 21 = .ok (.iload_n 2, 1) := by decide +kernel
theorem dX6_step_22 : decode cX6_step 22 = .ok (.iand, 1) := by decide +kernel
theorem dX6_step_23 : decode cX6_step 23 = .ok (.ifCond .ne 9, 3) := by decide +kernel
theorem dX6_step_26 : decode cX6_step 26 = .ok (.iload_n 1, 1) := by decide +kernel
theorem dX6_step_27 : decode cX6_step 27 = .ok (.iload_n 2, 1) := by decide +kernel
theorem dX6_step_28 : decode cX6_step 28 = .ok (.ior, 1) := by decide +kernel
theorem dX6_step_29 : decode cX6_step 29 = .ok (.ifCond .ne 6, 3) := by decide +kernel
theorem dX6_step_32 : decode cX6_step 32 = .ok (.bipush (-2), 2) := by decide +kernel
theorem dX6_step_34 : decode cX6_step 34 = .ok (.ireturn, 1) := by decide +kernel
theorem dX6_step_35 : decode cX6_step 35 = .ok (.aload_n 0, 1) := by decide +kernel
end
section
theorem dX6_step_36 : decode cX6_step 36 = .ok (.getfield 45, 3) := by decide +kernel
theorem dX6_step_39 : decode cX6_step 39 = .ok (.bipush 16, 2) := by decide +kernel
theorem dX6_step_41 : decode cX6_step 41 = .ok (.if_icmp .ne 6, 3) := by decide +kernel
theorem dX6_step_44 : decode cX6_step 44 = .ok (.bipush (-4), 2) := by decide +kernel
theorem dX6_step_46 : decode cX6_step 46 = .ok (.ireturn, 1) := by decide +kernel
theorem dX6_step_47 : decode cX6_step 47 = .ok (.aload_n 0, 1) := by decide +kernel
theorem dX6_step_48 : decode cX6_step 48 = .ok (.getfield 7, 3) := by decide +kernel
theorem dX6_step_51 : decode cX6_step 51 = .ok (.aload_n 0, 1) := by decide +kernel
theorem dX6_step_52 : decode cX6_step 52 = .ok (.getfield 45, 3) := by decide +kernel
theorem dX6_step_55 : decode cX6_step 55 = .ok (.iload_n 1, 1) := by decide +kernel
theorem dX6_step_56 : decode cX6_step 56 = .ok (.iastore, 1) := by decide +kernel
theorem dX6_step_57 : decode cX6_step 57 = .ok (.aload_n 0, 1) := by decide +kernel
theorem dX6_step_58 : decode cX6_step 58 = .ok (.getfield 13, 3) := by decide +kernel
theorem dX6_step_61 : decode cX6_step 61 = .ok (.aload_n 0, 1) := by decide +kernel
theorem dX6_step_62 : decode cX6_step 62 = .ok (.getfield 45, 3) := by decide +kernel
theorem dX6_step_65 : decode cX6_step 65 = .ok (.iload_n 2, 1) := by decide +kernel
theorem dX6_step_66 : decode cX6_step 66 = .ok (.iastore, 1) := by decide +kernel
theorem dX6_step_67 : decode cX6_step 67 = .ok (.aload_n 0, 1) := by decide +kernel
theorem dX6_step_68 : decode cX6_step 68 = .ok (.dup, 1) := by decide +kernel
theorem dX6_step_69 : decode cX6_step 69 = .ok (.getfield 45, 3) := by decide +kernel
theorem dX6_step_72 : decode cX6_step 72 = .ok (.iconst 1, 1) := by decide +kernel
theorem dX6_step_73 : decode cX6_step 73 = .ok (.iadd, 1) := by decide +kernel
theorem dX6_step_74 : decode cX6_step 74 = .ok (.putfield 45, 3) := by decide +kernel
theorem dX6_step_77 : decode cX6_step 77 = .ok (.aload_n 0, 1) := by decide +kernel
theorem dX6_step_78 : decode cX6_step 78 = .ok (.getfield 45, 3) := by decide +kernel
theorem dX6_step_81 : decode cX6_step 81 = .ok (.ireturn, 1) := by decide +kernel
theorem dX6_drop_0 : decode cX6_drop 0 = .ok (.aload_n 0, 1) := by decide +kernel
theorem dX6_drop_1 : decode cX6_drop 1 = .ok (.getfield 45, 3) := by decide +kernel
theorem dX6_drop_4 : decode cX6_drop 4 = .ok (.ifCond .ne 6, 3) := by decide +kernel
theorem dX6_drop_7 : decode cX6_drop 7 = .ok (.bipush (-3), 2) := by decide +kernel
theorem dX6_drop_9 : decode cX6_drop 9 = .ok (.ireturn, 1) := by decide +kernel
theorem dX6_drop_10 : decode cX6_drop 10 = .ok (.aload_n 0, 1) := by decide +kernel
theorem dX6_drop_11 : decode cX6_drop 11 = .ok (.dup, 1) := by decide +kernel
theorem dX6_drop_12 : decode cX6_drop 12 = .ok (.getfield 45, 3) := by decide +kernel
theorem dX6_drop_15 : decode cX6_drop 15 = .ok (.iconst 1, 1) := by decide +kernel
theorem dX6_drop_16 : decode cX6_drop 16 = .ok (.isub, 1) := by decide +kernel
theorem dX6_drop_17 : decode cX6_drop 17 = .ok (.putfield 45, 3) := by decide +kernel
theorem dX6_drop_20 : decode cX6_drop 20 = .ok (.aload_n 0, 1) := by decide +kernel
theorem dX6_drop_21 : decode cX6_drop 21 = .ok (.getfield 45, 3) := by decide +kernel
theorem dX6_drop_24 : decode cX6_drop 24 = .ok (.ireturn, 1) := by decide +kernel
theorem dX6_sound_0 : decode cX6_sound 0 = .ok (.aload_n 0, 1) := by decide +kernel
theorem dX6_sound_1 : decode cX6_sound 1 = .ok (.getfield 35, 3) := by decide +kernel
theorem dX6_sound_4 : decode cX6_sound 4 = .ok (.iconst 0, 1) := by decide +kernel
theorem dX6_sound_5 : decode cX6_sound 5 = .ok (.iconst 0, 1) := by decide +kernel
theorem dX6_sound_6 : decode cX6_sound 6 = .ok (.iastore, 1) := by decide +kernel
theorem dX6_sound_7 : decode cX6_sound 7 = .ok (.iconst 0, 1) := by decide +kernel
theorem dX6_sound_8 : decode cX6_sound 8 = .ok (.istore_n 1, 1) := by decide +kernel
theorem dX6_sound_9 : decode cX6_sound 9 = .ok (.iload_n 1, 1) := by decide +kernel
theorem dX6_sound_10 : decode cX6_sound 10 = .ok (.aload_n 0, 1) := by decide +kernel
theorem dX6_sound_11 : decode cX6_sound 11 = .ok (.getfield 45, 3) := by decide +kernel
theorem dX6_sound_14 : decode cX6_sound 14 = .ok (.if_icmp .ge 85, 3) := by decide +kernel
theorem dX6_sound_17 : decode cX6_sound 17 = .ok (.aload_n 0, 1) := by decide +kernel
theorem dX6_sound_18 : decode cX6_sound 18 = .ok (.getfield 7, 3) := by decide +kernel
theorem dX6_sound_21 : decode cX6_sound 21 = .ok (.iload_n 1, 1) := by decide +kernel
theorem dX6_sound_22 : decode cX6_sound 22 = .ok (.iaload, 1) := by decide +kernel
theorem dX6_sound_23 : decode cX6_sound 23 = .ok (.aload_n 0, 1) := by decide +kernel
theorem dX6_sound_24 : decode cX6_sound 24 = .ok (.getfield 35, 3) := by decide +kernel
theorem dX6_sound_27 : decode cX6_sound 27 = .ok (.iload_n 1, 1) := by decide +kernel
theorem dX6_sound_28 : decode cX6_sound 28 = .ok (.iaload, 1) := by decide +kernel
theorem dX6_sound_29 : decode cX6_sound 29 = .ok (.iand, 1) := by decide +kernel
theorem dX6_sound_30 : decode cX6_sound 30 = .ok (.ifCond .ne 21, 3) := by decide +kernel
theorem dX6_sound_33 : decode cX6_sound 33 = .ok (.aload_n 0, 1) := by decide +kernel
theorem dX6_sound_34 : decode cX6_sound 34 = .ok (.getfield 13, 3) := by decide +kernel
theorem dX6_sound_37 : decode cX6_sound 37 = .ok (.iload_n 1, 1) := by decide +kernel
theorem dX6_sound_38 : decode cX6_sound 38 = .ok (.iaload, 1) := by decide +kernel
theorem dX6_sound_39 : decode cX6_sound 39 = .ok (.aload_n 0, 1) := by decide +kernel
theorem dX6_sound_40 : decode cX6_sound 40 = .ok (.getfield 35, 3) := by decide +kernel
theorem dX6_sound_43 : decode cX6_sound 43 = .ok (.iload_n 1, 1) := by decide +kernel
theorem dX6_sound_44 : decode cX6_sound 44 = .ok (.iaload, 1) := by decide +kernel
theorem dX6_sound_45 : decode cX6_sound 45 = .ok (.iconst (-1), 1) := by decide +kernel
theorem dX6_sound_46 : decode cX6_sound 46 = .ok (.ixor, 1) := by decide +kernel
theorem dX6_sound_47 : decode cX6_sound 47 = .ok (.iand, 1) := by decide +kernel
theorem dX6_sound_48 : decode cX6_sound 48 = .ok (.ifCond .eq 5, 3) := by decide +kernel
theorem dX6_sound_51 : decode cX6_sound 51 = .ok (.iload_n 1, 1) := by decide +kernel
theorem dX6_sound_52 : decode cX6_sound 52 = .ok (.ireturn, 1) := by decide +kernel
theorem dX6_sound_53 : decode cX6_sound 53 = .ok (.aload_n 0, 1) := by decide +kernel
theorem dX6_sound_54 : decode cX6_sound 54 = .ok (.getfield 35, 3) := by decide +kernel
theorem dX6_sound_57 : decode cX6_sound 57 = .ok (.iload_n 1, 1) := by decide +kernel
theorem dX6_sound_58 : decode cX6_sound 58 = .ok (.iconst 1, 1) := by decide +kernel
theorem dX6_sound_59 : decode cX6_sound 59 = .ok (.iadd, 1) := by decide +kernel
theorem dX6_sound_60 : decode cX6_sound 60 = .ok (.aload_n 0, 1) := by decide +kernel
theorem dX6_sound_61 : decode cX6_sound 61 = .ok (.getfield 35, 3) := by decide +kernel
theorem dX6_sound_64 : decode cX6_sound 64 = .ok (.iload_n 1, 1) := by decide +kernel
theorem dX6_sound_65 : decode cX6_sound 65 = .ok (.iaload, 1) := by decide +kernel
theorem dX6_sound_66 : decode cX6_sound 66 = .ok (.aload_n 0, 1) := by decide +kernel
theorem dX6_sound_67 : decode cX6_sound 67 = .ok (.getfield 7, 3) := by decide +kernel
theorem dX6_sound_70 : decode cX6_sound 70 = .ok (.iload_n 1, 1) := by decide +kernel
theorem dX6_sound_71 : decode cX6_sound 71 = .ok (.iaload, 1) := by decide +kernel
theorem dX6_sound_72 : decode cX6_sound 72 = .ok (.ior, 1) := by decide +kernel
theorem dX6_sound_73 : decode cX6_sound 73 = .ok (.iastore, 1) := by decide +kernel
theorem dX6_sound_74 : decode cX6_sound 74 = .ok (.aload_n 0, 1) := by decide +kernel
theorem dX6_sound_75 : decode cX6_sound 75 = .ok (.getfield 35, 3) := by decide +kernel
theorem dX6_sound_78 : decode cX6_sound 78 = .ok (.iload_n 1, 1) := by decide +kernel
theorem dX6_sound_79 : decode cX6_sound 79 = .ok (.iconst 1, 1) := by decide +kernel
theorem dX6_sound_80 : decode cX6_sound 80 = .ok (.iadd, 1) := by decide +kernel
theorem dX6_sound_81 : decode cX6_sound 81 = .ok (.dup2, 1) := by decide +kernel
theorem dX6_sound_82 : decode cX6_sound 82 = .ok (.iaload, 1) := by decide +kernel
theorem dX6_sound_83 : decode cX6_sound 83 = .ok (.aload_n 0, 1) := by decide +kernel
theorem dX6_sound_84 : decode cX6_sound 84 = .ok (.getfield 13, 3) := by decide +kernel
theorem dX6_sound_87 : decode cX6_sound 87 = .ok (.iload_n 1, 1) := by decide +kernel
theorem dX6_sound_88 : decode cX6_sound 88 = .ok (.iaload, 1) := by decide +kernel
theorem dX6_sound_89 : decode cX6_sound 89 = .ok (.iconst (-1), 1) := by decide +kernel
theorem dX6_sound_90 : decode cX6_sound 90 = .ok (.ixor, 1) := by decide +kernel
theorem dX6_sound_91 : decode cX6_sound 91 = .ok (.iand, 1) := by decide +kernel
theorem dX6_sound_92 : decode cX6_sound 92 = .ok (.iastore, 1) := by decide +kernel
theorem dX6_sound_93 : decode cX6_sound 93 = .ok (.iinc 1 1, 3) := by decide +kernel
theorem dX6_sound_96 : decode cX6_sound 96 = .ok (.goto (-87), 3) := by decide +kernel
theorem dX6_sound_99 : decode cX6_sound 99 = .ok (.aload_n 0, 1) := by decide +kernel
theorem dX6_sound_100 : decode cX6_sound 100 = .ok (.getfield 45, 3) := by decide +kernel
theorem dX6_sound_103 : decode cX6_sound 103 = .ok (.ifCond .eq 15, 3) := by decide +kernel
theorem dX6_sound_106 : decode cX6_sound 106 = .ok (.aload_n 0, 1) := by decide +kernel
theorem dX6_sound_107 : decode cX6_sound 107 = .ok (.getfield 35, 3) := by decide +kernel
theorem dX6_sound_110 : decode cX6_sound 110 = .ok (.aload_n 0, 1) := by decide +kernel
theorem dX6_sound_111 : decode cX6_sound 111 = .ok (.getfield 45, 3) := by decide +kernel
theorem dX6_sound_114 : decode cX6_sound 114 = .ok (.iaload, 1) := by decide +kernel
theorem dX6_sound_115 : decode cX6_sound 115 = .ok (.ifCond .eq 10, 3) := by decide +kernel
theorem dX6_sound_118 : decode cX6_sound 118 = .ok (.aload_n 0, 1) := by decide +kernel
theorem dX6_sound_119 : decode cX6_sound 119 = .ok (.getfield 45, 3) := by decide +kernel
theorem dX6_sound_122 : decode cX6_sound 122 = .ok (.goto 4, 3) := by decide +kernel
theorem dX6_sound_125 : decode cX6_sound 125 = .ok (.iconst (-1), 1) := by decide +kernel
theorem dX6_sound_126 : decode cX6_sound 126 = .ok (.ireturn, 1) := by decide +kernel
set_option maxRecDepth 20000 in
theorem ggX6_isSound_X6_sound : GoodIn wsX6_isSound wsX6_sound := goodIn_r _ [5, 6, 7, 8, 9, 10, 11, 12, 13, 14, 15, 16, 17, 18, 19, 20, 21, 22] (by decide +kernel) (by decide +kernel)
set_option maxRecDepth 20000 in
theorem gX6_isSound_X6_sound : GoodIn wsX6_isSound (wsV RX6 49 RX6 yX6_sound wsX6_sound) := goodIn_app (goodIn_of _ (by decide +kernel)) ggX6_isSound_X6_sound
theorem dX6_isSound_0 : decode cX6_isSound 0 = .ok (.aload_n 0, 1) := by decide +kernel
theorem dX6_isSound_1 : decode cX6_isSound 1 = .ok (.invokevirtual 49, 3) := by decide +kernel
theorem dX6_isSound_4 : decode cX6_isSound 4 = .ok (.iconst (-1), 1) := by decide +kernel
theorem dX6_isSound_5 : decode cX6_isSound 5 = .ok (.if_icmp .ne 7, 3) := by decide +kernel
theorem dX6_isSound_8 : decode cX6_isSound 8 = .ok (.iconst 1, 1) := by decide +kernel
theorem dX6_isSound_9 : decode cX6_isSound 9 = .ok (.goto 4, 3) := by decide +kernel
theorem dX6_isSound_12 : decode cX6_isSound 12 = .ok (.iconst 0, 1) := by decide +kernel
theorem dX6_isSound_13 : decode cX6_isSound 13 = .ok (.ireturn, 1) := by decide +kernel
set_option maxRecDepth 20000 in
theorem ggX6_isStep_X6_in : GoodIn wsX6_isStep wsX6_in := goodIn_r _ [5] (by decide +kernel) (by decide +kernel)
set_option maxRecDepth 20000 in
theorem gX6_isStep_X6_in : GoodIn wsX6_isStep (va_wsS RX6 41 yX6_in wsX6_in) := goodIn_app (goodIn_of _ (by decide +kernel)) ggX6_isStep_X6_in
theorem dX6_isStep_0 : decode cX6_isStep 0 = .ok (.iload_n 1, 1) := by decide +kernel
theorem dX6_isStep_1 : decode cX6_isStep 1 = .ok (.iconst 0, 1) := by decide +kernel
theorem dX6_isStep_2 : decode cX6_isStep 2 = .ok (.aload_n 0, 1) := by decide +kernel
theorem dX6_isStep_3 : decode cX6_isStep 3 = .ok (.getfield 45, 3) := by decide +kernel
theorem dX6_isStep_6 : decode cX6_isStep 6 = .ok (.iconst 1, 1) := by decide +kernel
theorem dX6_isStep_7 : decode cX6_isStep 7 = .ok (.isub, 1) := by decide +kernel
theorem dX6_isStep_8 : decode cX6_isStep 8 = .ok (.invokestatic 41, 3) := by decide +kernel
theorem dX6_isStep_11 : decode cX6_isStep 11 = .ok (.ireturn, 1) := by decide +kernel
set_option maxRecDepth 20000 in
theorem ggX6_state_X6_isStep : GoodIn wsX6_state wsX6_isStep := goodIn_r _ [6, 7, 8, 9, 5, 10, 21, 22, 23, 24, 25, 26, 27, 28, 29, 30, 31, 32, 33] (by decide +kernel) (by decide +kernel)
set_option maxRecDepth 20000 in
theorem gX6_state_X6_isStep : GoodIn wsX6_state (wsV RX6 53 RX6 yX6_isStep wsX6_isStep) := goodIn_app (goodIn_of _ (by decide +kernel)) ggX6_state_X6_isStep
set_option maxRecDepth 20000 in
theorem ggX6_state_X6_isSound : GoodIn wsX6_state wsX6_isSound := goodIn_r _ [14, 15, 16, 17, 5, 18, 1, 7, 19, 20, 21, 22, 23, 24, 25, 26, 27, 28, 29, 30, 31, 32, 33] (by decide +kernel) (by decide +kernel)
set_option maxRecDepth 20000 in
theorem gX6_state_X6_isSound : GoodIn wsX6_state (wsV RX6 57 RX6 yX6_isSound wsX6_isSound) := goodIn_app (goodIn_of _ (by decide +kernel)) ggX6_state_X6_isSound
theorem dX6_state_0 : decode cX6_state 0 = .ok (.aload_n 0, 1) := by decide +kernel
theorem dX6_state_1 : decode cX6_state 1 = .ok (.iload_n 1, 1) := by decide +kernel
theorem dX6_state_2 : decode cX6_state 2 = .ok (.invokevirtual 53, 3) := by decide +kernel
theorem dX6_state_5 : decode cX6_state 5 = .ok (.ifCond .ne 8, 3) := by decide +kernel
theorem dX6_state_8 : decode cX6_state 8 = .ok (.bipush (-2), 2) := by decide +kernel
theorem dX6_state_10 : decode cX6_state 10 = .ok (.goto 21, 3) := by decide +kernel
theorem dX6_state_13 : decode cX6_state 13 = .ok (.aload_n 0, 1) := by decide +kernel
theorem dX6_state_14 : decode cX6_state 14 = .ok (.invokevirtual 57, 3) := by decide +kernel
theorem dX6_state_17 : decode cX6_state 17 = .ok (.ifCond .eq 12, 3) := by decide +kernel
theorem dX6_state_20 : decode cX6_state 20 = .ok (.aload_n 0, 1) := by decide +kernel
theorem dX6_state_21 : decode cX6_state 21 = .ok (.getfield 35, 3) := by decide +kernel
theorem dX6_state_24 : decode cX6_state 24 = .ok (.iload_n 1, 1) := by decide +kernel
theorem dX6_state_25 : decode cX6_state 25 = .ok (.iaload, 1) := by decide +kernel
theorem dX6_state_26 : decode cX6_state 26 = .ok (.goto 5, 3) := by decide +kernel
theorem dX6_state_29 : decode cX6_state 29 = .ok (.bipush (-3), 2) := by decide +kernel
theorem dX6_state_31 : decode cX6_state 31 = .ok (.ireturn, 1) := by decide +kernel
theorem dX6_ahead_0 : decode cX6_ahead 0 = .ok (.iload_n 1, 1) := by decide +kernel
theorem dX6_ahead_1 : decode cX6_ahead 1 = .ok (.ifCond .ne 12, 3) := by decide +kernel
theorem dX6_ahead_4 : decode cX6_ahead 4 = .ok (.aload_n 0, 1) := by decide +kernel
theorem dX6_ahead_5 : decode cX6_ahead 5 = .ok (.getfield 45, 3) := by decide +kernel
theorem dX6_ahead_8 : decode cX6_ahead 8 = .ok (.iconst 1, 1) := by decide +kernel
theorem dX6_ahead_9 : decode cX6_ahead 9 = .ok (.isub, 1) := by decide +kernel
theorem dX6_ahead_10 : decode cX6_ahead 10 = .ok (.goto 6, 3) := by decide +kernel
theorem dX6_ahead_13 : decode cX6_ahead 13 = .ok (.iload_n 1, 1) := by decide +kernel
theorem dX6_ahead_14 : decode cX6_ahead 14 = .ok (.iconst 1, 1) := by decide +kernel
theorem dX6_ahead_15 : decode cX6_ahead 15 = .ok (.isub, 1) := by decide +kernel
theorem dX6_ahead_16 : decode cX6_ahead 16 = .ok (.ireturn, 1) := by decide +kernel
set_option maxRecDepth 20000 in
theorem ggX6_isOn_X6_ahead : GoodIn wsX6_isOn wsX6_ahead := goodIn_r _ [7, 8, 9, 10, 11, 12, 13, 14, 15, 16, 17, 18, 19, 20, 21] (by decide +kernel) (by decide +kernel)
set_option maxRecDepth 20000 in
theorem gX6_isOn_X6_ahead : GoodIn wsX6_isOn (wsV RX6 61 RX6 yX6_ahead wsX6_ahead) := goodIn_app (goodIn_of _ (by decide +kernel)) ggX6_isOn_X6_ahead
theorem dX6_isOn_0 : decode cX6_isOn 0 = .ok (.aload_n 0, 1) := by decide +kernel
theorem dX6_isOn_1 : decode cX6_isOn 1 = .ok (.iload_n 1, 1) := by decide +kernel
theorem dX6_isOn_2 : decode cX6_isOn 2 = .ok (.invokevirtual 61, 3) := by decide +kernel
theorem dX6_isOn_5 : decode cX6_isOn 5 = .ok (.istore_n 3, 1) := by decide +kernel
theorem dX6_isOn_6 : decode cX6_isOn 6 = .ok (.aload_n 0, 1) := by decide +kernel
theorem dX6_isOn_7 : decode cX6_isOn 7 = .ok (.getfield 7, 3) := by decide +kernel
theorem dX6_isOn_10 : decode cX6_isOn 10 = .ok (.iload_n 3, 1) := by decide +kernel
theorem dX6_isOn_11 : decode cX6_isOn 11 = .ok (.iaload, 1) := by decide +kernel
theorem dX6_isOn_12 : decode cX6_isOn 12 = .ok (.iload_n 2, 1) := by decide +kernel
theorem dX6_isOn_13 : decode cX6_isOn 13 = .ok (.iconst (-1), 1) := by decide +kernel
theorem dX6_isOn_14 : decode cX6_isOn 14 = .ok (.ixor, 1) := by decide +kernel
theorem dX6_isOn_15 : decode cX6_isOn 15 = .ok (.iand, 1) := by decide +kernel
theorem dX6_isOn_16 : decode cX6_isOn 16 = .ok (.ifCond .ne 18, 3) := by decide +kernel
theorem dX6_isOn_19 : decode cX6_isOn 19 = .ok (.aload_n 0, 1) := by decide +kernel
theorem dX6_isOn_20 : decode cX6_isOn 20 = .ok (.getfield 13, 3) := by decide +kernel
theorem dX6_isOn_23 : decode cX6_isOn 23 = .ok (.iload_n 3, 1) := by decide +kernel
theorem dX6_isOn_24 : decode cX6_isOn 24 = .ok (.iaload, 1) := by decide +kernel
theorem dX6_isOn_25 : decode cX6_isOn 25 = .ok (.iload_n 2, 1) := by decide +kernel
theorem dX6_isOn_26 : decode cX6_isOn 26 = .ok (.iand, 1) := by decide +kernel
theorem dX6_isOn_27 : decode cX6_isOn 27 = .ok (.ifCond .ne 7, 3) := by decide +kernel
theorem dX6_isOn_30 : decode cX6_isOn 30 = .ok (.iconst 1, 1) := by decide +kernel
theorem dX6_isOn_31 : decode cX6_isOn 31 = .ok (.goto 4, 3) := by decide +kernel
theorem dX6_isOn_34 : decode cX6_isOn 34 = .ok (.iconst 0, 1) := by decide +kernel
theorem dX6_isOn_35 : decode cX6_isOn 35 = .ok (.ireturn, 1) := by decide +kernel
theorem dX6_mayCut_0 : decode cX6_mayCut 0 = .ok (.iconst 0, 1) := by decide +kernel
theorem dX6_mayCut_1 : decode cX6_mayCut 1 = .ok (.istore_n 2, 1) := by decide +kernel
theorem dX6_mayCut_2 : decode cX6_mayCut 2 = .ok (.iload_n 1, 1) := by decide +kernel
theorem dX6_mayCut_3 : decode cX6_mayCut 3 = .ok (.iload_n 2, 1) := by decide +kernel
theorem dX6_mayCut_4 : decode cX6_mayCut 4 = .ok (.ishr, 1) := by decide +kernel
theorem dX6_mayCut_5 : decode cX6_mayCut 5 = .ok (.iconst 1, 1) := by decide +kernel
theorem dX6_mayCut_6 : decode cX6_mayCut 6 = .ok (.iand, 1) := by decide +kernel
theorem dX6_mayCut_7 : decode cX6_mayCut 7 = .ok (.ifCond .ne 9, 3) := by decide +kernel
theorem dX6_mayCut_10 : decode cX6_mayCut 10 = .ok (.iinc 2 1, 3) := by decide +kernel
theorem dX6_mayCut_13 : decode cX6_mayCut 13 = .ok (.goto (-11), 3) := by decide +kernel
theorem dX6_mayCut_16 : decode cX6_mayCut 16 = .ok (.iconst 0, 1) := by decide +kernel
theorem dX6_mayCut_17 : decode cX6_mayCut 17 = .ok (.istore_n 3, 1) := by decide +kernel
theorem dX6_mayCut_18 : decode cX6_mayCut 18 = .ok (.iconst 0, 1) := by decide +kernel
theorem dX6_mayCut_19 : decode cX6_mayCut 19 = .ok (.istore 4, 2) := by decide +kernel
theorem dX6_mayCut_21 : decode cX6_mayCut 21 = .ok (.iload 4, 2) := by decide +kernel
theorem dX6_mayCut_23 : decode cX6_mayCut 23 = .ok (.aload_n 0, 1) := by decide +kernel
theorem dX6_mayCut_24 : decode cX6_mayCut 24 = .ok (.getfield 45, 3) := by decide +kernel
theorem dX6_mayCut_27 : decode cX6_mayCut 27 = .ok (.if_icmp .ge 67, 3) := by decide +kernel
theorem dX6_mayCut_30 : decode cX6_mayCut 30 = .ok (.iload_n 2, 1) := by decide +kernel
theorem dX6_mayCut_31 : decode cX6_mayCut 31 = .ok (.iload 4, 2) := by decide +kernel
theorem dX6_mayCut_33 : decode cX6_mayCut 33 = .ok (.iadd, 1) := by decide +kernel
theorem dX6_mayCut_34 : decode cX6_mayCut 34 = .ok (.aload_n 0, 1) := by decide +kernel
theorem dX6_mayCut_35 : decode cX6_mayCut 35 = .ok (.getfield 45, 3) := by decide +kernel
theorem dX6_mayCut_38 : decode cX6_mayCut 38 = .ok (.irem, 1) := by decide +kernel
theorem dX6_mayCut_39 : decode cX6_mayCut 39 = .ok (.istore 5, 2) := by decide +kernel
theorem dX6_mayCut_41 : decode cX6_mayCut 41 = .ok (.iload_n 1, 1) := by decide +kernel
theorem dX6_mayCut_42 : decode cX6_mayCut 42 = .ok (.iload 5, 2) := by decide +kernel
theorem dX6_mayCut_44 : decode cX6_mayCut 44 = .ok (.ishr, 1) := by decide +kernel
theorem dX6_mayCut_45 : decode cX6_mayCut 45 = .ok (.iconst 1, 1) := by decide +kernel
theorem dX6_mayCut_46 : decode cX6_mayCut 46 = .ok (.iand, 1) := by decide +kernel
theorem dX6_mayCut_47 : decode cX6_mayCut 47 = .ok (.iconst 1, 1) := by decide +kernel
theorem dX6_mayCut_48 : decode cX6_mayCut 48 = .ok (.if_icmp .ne 7, 3) := by decide +kernel
theorem dX6_mayCut_51 : decode cX6_mayCut 51 = .ok (.iconst 0, 1) := by decide +kernel
theorem dX6_mayCut_52 : decode cX6_mayCut 52 = .ok (.goto 4, 3) := by decide +kernel
theorem dX6_mayCut_55 : decode cX6_mayCut 55 = .ok (.iload_n 3, 1) := by decide +kernel
theorem dX6_mayCut_56 : decode cX6_mayCut 56 = .ok (.istore_n 3, 1) := by decide +kernel
theorem dX6_mayCut_57 : decode cX6_mayCut 57 = .ok (.aload_n 0, 1) := by decide +kernel
theorem dX6_mayCut_58 : decode cX6_mayCut 58 = .ok (.getfield 7, 3) := by decide +kernel
theorem dX6_mayCut_61 : decode cX6_mayCut 61 = .ok (.iload 5, 2) := by decide +kernel
theorem dX6_mayCut_63 : decode cX6_mayCut 63 = .ok (.iaload, 1) := by decide +kernel
theorem dX6_mayCut_64 : decode cX6_mayCut 64 = .ok (.aload_n 0, 1) := by decide +kernel
theorem dX6_mayCut_65 : decode cX6_mayCut 65 = .ok (.getfield 13, 3) := by decide +kernel
theorem dX6_mayCut_68 : decode cX6_mayCut 68 = .ok (.iload 5, 2) := by decide +kernel
theorem dX6_mayCut_70 : decode cX6_mayCut 70 = .ok (.iaload, 1) := by decide +kernel
theorem dX6_mayCut_71 : decode cX6_mayCut 71 = .ok (.ior, 1) := by decide +kernel
theorem dX6_mayCut_72 : decode cX6_mayCut 72 = .ok (.istore 6, 2) := by decide +kernel
theorem dX6_mayCut_74 : decode cX6_mayCut 74 = .ok (.iload_n 3, 1) := by decide +kernel
theorem dX6_mayCut_75 : decode cX6_mayCut 75 = .ok (.iload 6, 2) := by decide +kernel
theorem dX6_mayCut_77 : decode cX6_mayCut 77 = .ok (.iand, 1) := by decide +kernel
theorem dX6_mayCut_78 : decode cX6_mayCut 78 = .ok (.ifCond .eq 5, 3) := by decide +kernel
theorem dX6_mayCut_81 : decode cX6_mayCut 81 = .ok (.iconst 0, 1) := by decide +kernel
theorem dX6_mayCut_82 : decode cX6_mayCut 82 = .ok (.ireturn, 1) := by decide +kernel
theorem dX6_mayCut_83 : decode cX6_mayCut 83 = .ok (.iload_n 3, 1) := by decide +kernel
theorem dX6_mayCut_84 : decode cX6_mayCut 84 = .ok (.iload 6, 2) := by decide +kernel
theorem dX6_mayCut_86 : decode cX6_mayCut 86 = .ok (.ior, 1) := by decide +kernel
theorem dX6_mayCut_87 : decode cX6_mayCut 87 = .ok (.istore_n 3, 1) := by decide +kernel
theorem dX6_mayCut_88 : decode cX6_mayCut 88 = .ok (.iinc 4 1, 3) := by decide +kernel
theorem dX6_mayCut_91 : decode cX6_mayCut 91 = .ok (.goto (-70), 3) := by decide +kernel
theorem dX6_mayCut_94 : decode cX6_mayCut 94 = .ok (.iconst 1, 1) := by decide +kernel
theorem dX6_mayCut_95 : decode cX6_mayCut 95 = .ok (.ireturn, 1) := by decide +kernel
theorem dX6_comesFirst_0 : decode cX6_comesFirst 0 = .ok (.iload_n 0, 1) := by decide +kernel
theorem dX6_comesFirst_1 : decode cX6_comesFirst 1 = .ok (.iload_n 1, 1) := by decide +kernel
theorem dX6_comesFirst_2 : decode cX6_comesFirst 2 = .ok (.ixor, 1) := by decide +kernel
theorem dX6_comesFirst_3 : decode cX6_comesFirst 3 = .ok (.istore_n 2, 1) := by decide +kernel
theorem dX6_comesFirst_4 : decode cX6_comesFirst 4 = .ok (.iload_n 0, 1) := by decide +kernel
theorem dX6_comesFirst_5 : decode cX6_comesFirst 5 = .ok (.iload_n 2, 1) := by decide +kernel
theorem dX6_comesFirst_6 : decode cX6_comesFirst 6 = .ok (.iand, 1) := by decide +kernel
theorem dX6_comesFirst_7 : decode cX6_comesFirst 7 = .ok (.iload_n 2, 1) := by decide +kernel
theorem dX6_comesFirst_8 : decode cX6_comesFirst 8 = .ok (.ineg, 1) := by decide +kernel
theorem dX6_comesFirst_9 : decode cX6_comesFirst 9 = .ok (.iand, 1) := by decide +kernel
theorem dX6_comesFirst_10 : decode cX6_comesFirst 10 = .ok (.ifCond .eq 7, 3) := by decide +kernel
theorem dX6_comesFirst_13 : decode cX6_comesFirst 13 = .ok (.iconst 1, 1) := by decide +kernel
theorem dX6_comesFirst_14 : decode cX6_comesFirst 14 = .ok (.goto 4, 3) := by decide +kernel
theorem dX6_comesFirst_17 : decode cX6_comesFirst 17 = .ok (.iconst 0, 1) := by decide +kernel
theorem dX6_comesFirst_18 : decode cX6_comesFirst 18 = .ok (.ireturn, 1) := by decide +kernel
set_option maxRecDepth 20000 in
theorem ggX6_findCuts_X6_ones : GoodIn wsX6_findCuts wsX6_ones := goodIn_r _ [6] (by decide +kernel) (by decide +kernel)
set_option maxRecDepth 20000 in
theorem gX6_findCuts_X6_ones : GoodIn wsX6_findCuts (va_wsS RX6 68 yX6_ones wsX6_ones) := goodIn_app (goodIn_of _ (by decide +kernel)) ggX6_findCuts_X6_ones
set_option maxRecDepth 20000 in
theorem ggX6_findCuts_X6_comesFirst : GoodIn wsX6_findCuts wsX6_comesFirst := goodIn_r _ [9] (by decide +kernel) (by decide +kernel)
set_option maxRecDepth 20000 in
theorem gX6_findCuts_X6_comesFirst : GoodIn wsX6_findCuts (va_wsS RX6 71 yX6_comesFirst wsX6_comesFirst) := goodIn_app (goodIn_of _ (by decide +kernel)) ggX6_findCuts_X6_comesFirst
set_option maxRecDepth 20000 in
theorem ggX6_findCuts_X6_mayCut : GoodIn wsX6_findCuts wsX6_mayCut := goodIn_r _ [13, 1, 14, 15, 16, 17, 18, 19, 20, 21, 22, 23, 24, 25, 26, 27, 28] (by decide +kernel) (by decide +kernel)
set_option maxRecDepth 20000 in
theorem gX6_findCuts_X6_mayCut : GoodIn wsX6_findCuts (wsV RX6 75 RX6 yX6_mayCut wsX6_mayCut) := goodIn_app (goodIn_of _ (by decide +kernel)) ggX6_findCuts_X6_mayCut
theorem dX6_findCuts_0 : decode cX6_findCuts 0 = .ok (.aload_n 0, 1) := by decide +kernel
theorem dX6_findCuts_1 : decode cX6_findCuts 1 = .ok (.iconst 1, 1) := by decide +kernel
theorem dX6_findCuts_2 : decode cX6_findCuts 2 = .ok (.aload_n 0, 1) := by decide +kernel
theorem dX6_findCuts_3 : decode cX6_findCuts 3 = .ok (.getfield 45, 3) := by decide +kernel
theorem dX6_findCuts_6 : decode cX6_findCuts 6 = .ok (.ishl, 1) := by decide +kernel
theorem dX6_findCuts_7 : decode cX6_findCuts 7 = .ok (.iconst 1, 1) := by decide +kernel
theorem dX6_findCuts_8 : decode cX6_findCuts 8 = .ok (.isub, 1) := by decide +kernel
theorem dX6_findCuts_9 : decode cX6_findCuts 9 = .ok (.putfield 65, 3) := by decide +kernel
theorem dX6_findCuts_12 : decode cX6_findCuts 12 = .ok (.iconst 1, 1) := by decide +kernel
theorem dX6_findCuts_13 : decode cX6_findCuts 13 = .ok (.istore_n 1, 1) := by decide +kernel
theorem dX6_findCuts_14 : decode cX6_findCuts 14 = .ok (.iload_n 1, 1) := by decide +kernel
theorem dX6_findCuts_15 : decode cX6_findCuts 15 = .ok (.iconst 1, 1) := by decide +kernel
theorem dX6_findCuts_16 : decode cX6_findCuts 16 = .ok (.aload_n 0, 1) := by decide +kernel
theorem dX6_findCuts_17 : decode cX6_findCuts 17 = .ok (.getfield 45, 3) := by decide +kernel
theorem dX6_findCuts_20 : decode cX6_findCuts 20 = .ok (.ishl, 1) := by decide +kernel
theorem dX6_findCuts_21 : decode cX6_findCuts 21 = .ok (.if_icmp .ge 54, 3) := by decide +kernel
theorem dX6_findCuts_24 : decode cX6_findCuts 24 = .ok (.iload_n 1, 1) := by decide +kernel
theorem dX6_findCuts_25 : decode cX6_findCuts 25 = .ok (.invokestatic 68, 3) := by decide +kernel
theorem dX6_findCuts_28 : decode cX6_findCuts 28 = .ok (.aload_n 0, 1) := by decide +kernel
theorem dX6_findCuts_29 : decode cX6_findCuts 29 = .ok (.getfield 65, 3) := by decide +kernel
theorem dX6_findCuts_32 : decode cX6_findCuts 32 = .ok (.invokestatic 68, 3) := by decide +kernel
theorem dX6_findCuts_35 : decode cX6_findCuts 35 = .ok (.isub, 1) := by decide +kernel
theorem dX6_findCuts_36 : decode cX6_findCuts 36 = .ok (.istore_n 2, 1) := by decide +kernel
theorem dX6_findCuts_37 : decode cX6_findCuts 37 = .ok (.iload_n 2, 1) := by decide +kernel
theorem dX6_findCuts_38 : decode cX6_findCuts 38 = .ok (.ifCond .lt 18, 3) := by decide +kernel
theorem dX6_findCuts_41 : decode cX6_findCuts 41 = .ok (.iload_n 2, 1) := by decide +kernel
theorem dX6_findCuts_42 : decode cX6_findCuts 42 = .ok (.ifCond .ne 27, 3) := by decide +kernel
theorem dX6_findCuts_45 : decode cX6_findCuts 45 = .ok (.iload_n 1, 1) := by decide +kernel
theorem dX6_findCuts_46 : decode cX6_findCuts 46 = .ok (.aload_n 0, 1) := by decide +kernel
theorem dX6_findCuts_47 : decode cX6_findCuts 47 = .ok (.getfield 65, 3) := by decide +kernel
theorem dX6_findCuts_50 : decode cX6_findCuts 50 = .ok (.invokestatic 71, 3) := by decide +kernel
theorem dX6_findCuts_53 : decode cX6_findCuts 53 = .ok (.ifCond .eq 16, 3) := by decide +kernel
theorem dX6_findCuts_56 : decode cX6_findCuts 56 = .ok (.aload_n 0, 1) := by decide +kernel
theorem dX6_findCuts_57 : decode cX6_findCuts 57 = .ok (.iload_n 1, 1) := by decide +kernel
theorem dX6_findCuts_58 : decode cX6_findCuts 58 = .ok (.invokevirtual 75, 3) := by decide +kernel
theorem dX6_findCuts_61 : decode cX6_findCuts 61 = .ok (.ifCond .eq 8, 3) := by decide +kernel
theorem dX6_findCuts_64 : decode cX6_findCuts 64 = .ok (.aload_n 0, 1) := by decide +kernel
theorem dX6_findCuts_65 : decode cX6_findCuts 65 = .ok (.iload_n 1, 1) := by decide +kernel
theorem dX6_findCuts_66 : decode cX6_findCuts 66 = .ok (.putfield 65, 3) := by decide +kernel
theorem dX6_findCuts_69 : decode cX6_findCuts 69 = .ok (.iinc 1 1, 3) := by decide +kernel
theorem dX6_findCuts_72 : decode cX6_findCuts 72 = .ok (.goto (-58), 3) := by decide +kernel
theorem dX6_findCuts_75 : decode cX6_findCuts 75 = .ok (.return_, 1) := by decide +kernel
set_option maxRecDepth 20000 in
theorem ggX6_beginOf_X6_ahead : GoodIn wsX6_beginOf wsX6_ahead := goodIn_r _ [6, 7, 8, 9, 10, 11, 12, 13, 14, 15, 16, 17, 18, 19, 20] (by decide +kernel) (by decide +kernel)
set_option maxRecDepth 20000 in
theorem gX6_beginOf_X6_ahead : GoodIn wsX6_beginOf (wsV RX6 61 RX6 yX6_ahead wsX6_ahead) := goodIn_app (goodIn_of _ (by decide +kernel)) ggX6_beginOf_X6_ahead
theorem dX6_beginOf_0 : decode cX6_beginOf 0 = .ok (.iload_n 1, 1) := by decide +kernel
theorem dX6_beginOf_1 : decode cX6_beginOf 1 = .ok (.istore_n 2, 1) := by decide +kernel
theorem dX6_beginOf_2 : decode cX6_beginOf 2 = .ok (.aload_n 0, 1) := by decide +kernel
theorem dX6_beginOf_3 : decode cX6_beginOf 3 = .ok (.getfield 65, 3) := by decide +kernel
theorem dX6_beginOf_6 : decode cX6_beginOf 6 = .ok (.iload_n 2, 1) := by decide +kernel
theorem dX6_beginOf_7 : decode cX6_beginOf 7 = .ok (.ishr, 1) := by decide +kernel
theorem dX6_beginOf_8 : decode cX6_beginOf 8 = .ok (.iconst 1, 1) := by decide +kernel
theorem dX6_beginOf_9 : decode cX6_beginOf 9 = .ok (.iand, 1) := by decide +kernel
theorem dX6_beginOf_10 : decode cX6_beginOf 10 = .ok (.ifCond .ne 12, 3) := by decide +kernel
theorem dX6_beginOf_13 : decode cX6_beginOf 13 = .ok (.aload_n 0, 1) := by decide +kernel
theorem dX6_beginOf_14 : decode cX6_beginOf 14 = .ok (.iload_n 2, 1) := by decide +kernel
theorem dX6_beginOf_15 : decode cX6_beginOf 15 = .ok (.invokevirtual 61, 3) := by decide +kernel
theorem dX6_beginOf_18 : decode cX6_beginOf 18 = .ok (.istore_n 2, 1) := by decide +kernel
theorem dX6_beginOf_19 : decode cX6_beginOf 19 = .ok (.goto (-17), 3) := by decide +kernel
theorem dX6_beginOf_22 : decode cX6_beginOf 22 = .ok (.iload_n 2, 1) := by decide +kernel
theorem dX6_beginOf_23 : decode cX6_beginOf 23 = .ok (.ireturn, 1) := by decide +kernel
set_option maxRecDepth 20000 in
theorem ggX6_isPushed_X6_isOn : GoodIn wsX6_isPushed wsX6_isOn := goodIn_r _ [6, 7, 8, 9, 10, 11, 5, 12, 13, 19, 20, 21, 22, 23, 24, 25, 26, 27, 28, 29, 30, 31] (by decide +kernel) (by decide +kernel)
set_option maxRecDepth 20000 in
theorem gX6_isPushed_X6_isOn : GoodIn wsX6_isPushed (wsV RX6 78 RX6 yX6_isOn wsX6_isOn) := goodIn_app (goodIn_of _ (by decide +kernel)) ggX6_isPushed_X6_isOn
set_option maxRecDepth 20000 in
theorem ggX6_isPushed_X6_beginOf : GoodIn wsX6_isPushed wsX6_beginOf := goodIn_r _ [17, 18, 9, 10, 11, 5, 12, 13, 19, 20, 21, 22, 23, 24, 25, 26, 27, 28, 29, 30, 31] (by decide +kernel) (by decide +kernel)
set_option maxRecDepth 20000 in
theorem gX6_isPushed_X6_beginOf : GoodIn wsX6_isPushed (wsV RX6 81 RX6 yX6_beginOf wsX6_beginOf) := goodIn_app (goodIn_of _ (by decide +kernel)) ggX6_isPushed_X6_beginOf
theorem dX6_isPushed_0 : decode cX6_isPushed 0 = .ok (.aload_n 0, 1) := by decide +kernel
theorem dX6_isPushed_1 : decode cX6_isPushed 1 = .ok (.iload_n 1, 1) := by decide +kernel
theorem dX6_isPushed_2 : decode cX6_isPushed 2 = .ok (.aload_n 0, 1) := by decide +kernel
theorem dX6_isPushed_3 : decode cX6_isPushed 3 = .ok (.getfield 35, 3) := by decide +kernel
theorem dX6_isPushed_6 : decode cX6_isPushed 6 = .ok (.iload_n 2, 1) := by decide +kernel
theorem dX6_isPushed_7 : decode cX6_isPushed 7 = .ok (.iaload, 1) := by decide +kernel
theorem dX6_isPushed_8 : decode cX6_isPushed 8 = .ok (.invokevirtual 78, 3) := by decide +kernel
theorem dX6_isPushed_11 : decode cX6_isPushed 11 = .ok (.istore 4, 2) := by decide +kernel
theorem dX6_isPushed_13 : decode cX6_isPushed 13 = .ok (.iload_n 3, 1) := by decide +kernel
theorem dX6_isPushed_14 : decode cX6_isPushed 14 = .ok (.ifCond .ne 6, 3) := by decide +kernel
theorem dX6_isPushed_17 : decode cX6_isPushed 17 = .ok (.iload 4, 2) := by decide +kernel
theorem dX6_isPushed_19 : decode cX6_isPushed 19 = .ok (.ireturn, 1) := by decide +kernel
theorem dX6_isPushed_20 : decode cX6_isPushed 20 = .ok (.aload_n 0, 1) := by decide +kernel
theorem dX6_isPushed_21 : decode cX6_isPushed 21 = .ok (.iload_n 1, 1) := by decide +kernel
theorem dX6_isPushed_22 : decode cX6_isPushed 22 = .ok (.invokevirtual 81, 3) := by decide +kernel
theorem dX6_isPushed_25 : decode cX6_isPushed 25 = .ok (.aload_n 0, 1) := by decide +kernel
theorem dX6_isPushed_26 : decode cX6_isPushed 26 = .ok (.iload_n 2, 1) := by decide +kernel
theorem dX6_isPushed_27 : decode cX6_isPushed 27 = .ok (.invokevirtual 81, 3) := by decide +kernel
theorem dX6_isPushed_30 : decode cX6_isPushed 30 = .ok (.if_icmp .ne 21, 3) := by decide +kernel
theorem dX6_isPushed_33 : decode cX6_isPushed 33 = .ok (.aload_n 0, 1) := by decide +kernel
theorem dX6_isPushed_34 : decode cX6_isPushed 34 = .ok (.iload_n 1, 1) := by decide +kernel
theorem dX6_isPushed_35 : decode cX6_isPushed 35 = .ok (.invokevirtual 81, 3) := by decide +kernel
theorem dX6_isPushed_38 : decode cX6_isPushed 38 = .ok (.iload_n 1, 1) := by decide +kernel
theorem dX6_isPushed_39 : decode cX6_isPushed 39 = .ok (.if_icmp .eq 8, 3) := by decide +kernel
theorem dX6_isPushed_42 : decode cX6_isPushed 42 = .ok (.iload 4, 2) := by decide +kernel
theorem dX6_isPushed_44 : decode cX6_isPushed 44 = .ok (.ifCond .eq 7, 3) := by decide +kernel
theorem dX6_isPushed_47 : decode cX6_isPushed 47 = .ok (.iconst 1, 1) := by decide +kernel
theorem dX6_isPushed_48 : decode cX6_isPushed 48 = .ok (.goto 4, 3) := by decide +kernel
theorem dX6_isPushed_51 : decode cX6_isPushed 51 = .ok (.iconst 0, 1) := by decide +kernel
theorem dX6_isPushed_52 : decode cX6_isPushed 52 = .ok (.ireturn, 1) := by decide +kernel
set_option maxRecDepth 20000 in
theorem ggX6_clashAt_X6_isPushed : GoodIn wsX6_clashAt wsX6_isPushed := goodIn_r _ [8, 9, 10, 11, 12, 7, 13, 2, 3, 14, 15, 16, 17, 1, 18, 19, 20, 21, 22, 23, 24, 25, 26, 27, 28, 29, 30, 31, 32, 33, 34, 35] (by decide +kernel) (by decide +kernel)
set_option maxRecDepth 20000 in
theorem gX6_clashAt_X6_isPushed : GoodIn wsX6_clashAt (wsV RX6 84 RX6 yX6_isPushed wsX6_isPushed) := goodIn_app (goodIn_of _ (by decide +kernel)) ggX6_clashAt_X6_isPushed
theorem dX6_clashAt_0 : decode cX6_clashAt 0 = .ok (.iconst 0, 1) := by decide +kernel
theorem dX6_clashAt_1 : decode cX6_clashAt 1 = .ok (.istore_n 3, 1) := by decide +kernel
theorem dX6_clashAt_2 : decode cX6_clashAt 2 = .ok (.iconst 0, 1) := by decide +kernel
theorem dX6_clashAt_3 : decode cX6_clashAt 3 = .ok (.istore 4, 2) := by decide +kernel
theorem dX6_clashAt_5 : decode cX6_clashAt 5 = .ok (.iload 4, 2) := by decide +kernel
theorem dX6_clashAt_7 : decode cX6_clashAt 7 = .ok (.aload_n 0, 1) := by decide +kernel
theorem dX6_clashAt_8 : decode cX6_clashAt 8 = .ok (.getfield 45, 3) := by decide +kernel
theorem dX6_clashAt_11 : decode cX6_clashAt 11 = .ok (.if_icmp .ge 52, 3) := by decide +kernel
theorem dX6_clashAt_14 : decode cX6_clashAt 14 = .ok (.aload_n 0, 1) := by decide +kernel
theorem dX6_clashAt_15 : decode cX6_clashAt 15 = .ok (.iload 4, 2) := by decide +kernel
theorem dX6_clashAt_17 : decode cX6_clashAt 17 = .ok (.iload_n 1, 1) := by decide +kernel
theorem dX6_clashAt_18 : decode cX6_clashAt 18 = .ok (.iload_n 2, 1) := by decide +kernel
theorem dX6_clashAt_19 : decode cX6_clashAt 19 = .ok (.invokevirtual 84, 3) := by decide +kernel
theorem dX6_clashAt_22 : decode cX6_clashAt 22 = .ok (.ifCond .eq 35, 3) := by decide +kernel
theorem dX6_clashAt_25 : decode cX6_clashAt 25 = .ok (.iload_n 3, 1) := by decide +kernel
theorem dX6_clashAt_26 : decode cX6_clashAt 26 = .ok (.aload_n 0, 1) := by decide +kernel
theorem dX6_clashAt_27 : decode cX6_clashAt 27 = .ok (.getfield 7, 3) := by decide +kernel
theorem dX6_clashAt_30 : decode cX6_clashAt 30 = .ok (.iload_n 1, 1) := by decide +kernel
theorem dX6_clashAt_31 : decode cX6_clashAt 31 = .ok (.iaload, 1) := by decide +kernel
theorem dX6_clashAt_32 : decode cX6_clashAt 32 = .ok (.aload_n 0, 1) := by decide +kernel
theorem dX6_clashAt_33 : decode cX6_clashAt 33 = .ok (.getfield 13, 3) := by decide +kernel
theorem dX6_clashAt_36 : decode cX6_clashAt 36 = .ok (.iload 4, 2) := by decide +kernel
theorem dX6_clashAt_38 : decode cX6_clashAt 38 = .ok (.iaload, 1) := by decide +kernel
theorem dX6_clashAt_39 : decode cX6_clashAt 39 = .ok (.iand, 1) := by decide +kernel
theorem dX6_clashAt_40 : decode cX6_clashAt 40 = .ok (.aload_n 0, 1) := by decide +kernel
theorem dX6_clashAt_41 : decode cX6_clashAt 41 = .ok (.getfield 13, 3) := by decide +kernel
theorem dX6_clashAt_44 : decode cX6_clashAt 44 = .ok (.iload_n 1, 1) := by decide +kernel
theorem dX6_clashAt_45 : decode cX6_clashAt 45 = .ok (.iaload, 1) := by decide +kernel
theorem dX6_clashAt_46 : decode cX6_clashAt 46 = .ok (.aload_n 0, 1) := by decide +kernel
theorem dX6_clashAt_47 : decode cX6_clashAt 47 = .ok (.getfield 7, 3) := by decide +kernel
theorem dX6_clashAt_50 : decode cX6_clashAt 50 = .ok (.iload 4, 2) := by decide +kernel
theorem dX6_clashAt_52 : decode cX6_clashAt 52 = .ok (.iaload, 1) := by decide +kernel
theorem dX6_clashAt_53 : decode cX6_clashAt 53 = .ok (.iand, 1) := by decide +kernel
theorem dX6_clashAt_54 : decode cX6_clashAt 54 = .ok (.ior, 1) := by decide +kernel
theorem dX6_clashAt_55 : decode cX6_clashAt 55 = .ok (.ior, 1) := by decide +kernel
theorem dX6_clashAt_56 : decode cX6_clashAt 56 = .ok (.istore_n 3, 1) := by decide +kernel
theorem dX6_clashAt_57 : decode cX6_clashAt 57 = .ok (.iinc 4 1, 3) := by decide +kernel
theorem dX6_clashAt_60 : decode cX6_clashAt 60 = .ok (.goto (-55), 3) := by decide +kernel
theorem dX6_clashAt_63 : decode cX6_clashAt 63 = .ok (.iload_n 3, 1) := by decide +kernel
theorem dX6_clashAt_64 : decode cX6_clashAt 64 = .ok (.ireturn, 1) := by decide +kernel
set_option maxRecDepth 20000 in
theorem ggX6_firstClash_X6_findCuts : GoodIn wsX6_firstClash wsX6_findCuts := goodIn_r _ [6, 1, 7, 8, 9, 5, 10, 11, 12, 13, 14, 15, 16, 17, 18, 19, 41, 42, 43, 44, 45, 46, 47, 48, 49, 50, 51, 52, 53] (by decide +kernel) (by decide +kernel)
set_option maxRecDepth 20000 in
theorem gX6_firstClash_X6_findCuts : GoodIn wsX6_firstClash (wsV RX6 87 RX6 yX6_findCuts wsX6_findCuts) := goodIn_app (goodIn_of _ (by decide +kernel)) ggX6_firstClash_X6_findCuts
set_option maxRecDepth 20000 in
theorem ggX6_firstClash_X6_clashAt : GoodIn wsX6_firstClash wsX6_clashAt := goodIn_r _ [23, 1, 18, 19, 24, 25, 26, 5, 27, 28, 29, 30, 31, 32, 33, 34, 35, 36, 37, 38, 39, 40, 7, 41, 42, 43, 44, 45, 46, 47, 48, 49, 50, 51, 52, 53] (by decide +kernel) (by decide +kernel)
set_option maxRecDepth 20000 in
theorem gX6_firstClash_X6_clashAt : GoodIn wsX6_firstClash (wsV RX6 90 RX6 yX6_clashAt wsX6_clashAt) := goodIn_app (goodIn_of _ (by decide +kernel)) ggX6_firstClash_X6_clashAt
theorem dX6_firstClash_0 : decode cX6_firstClash 0 = .ok (.aload_n 0, 1) := by decide +kernel
theorem dX6_firstClash_1 : decode cX6_firstClash 1 = .ok (.invokevirtual 87, 3) := by decide +kernel
theorem dX6_firstClash_4 : decode cX6_firstClash 4 = .ok (.iconst 0, 1) := by decide +kernel
theorem dX6_firstClash_5 : decode cX6_firstClash 5 = .ok (.istore_n 2, 1) := by decide +kernel
theorem dX6_firstClash_6 : decode cX6_firstClash 6 = .ok (.iload_n 2, 1) := by decide +kernel
theorem dX6_firstClash_7 : decode cX6_firstClash 7 = .ok (.aload_n 0, 1) := by decide +kernel
theorem dX6_firstClash_8 : decode cX6_firstClash 8 = .ok (.getfield 45, 3) := by decide +kernel
theorem dX6_firstClash_11 : decode cX6_firstClash 11 = .ok (.if_icmp .ge 20, 3) := by decide +kernel
theorem dX6_firstClash_14 : decode cX6_firstClash 14 = .ok (.aload_n 0, 1) := by decide +kernel
theorem dX6_firstClash_15 : decode cX6_firstClash 15 = .ok (.iload_n 2, 1) := by decide +kernel
theorem dX6_firstClash_16 : decode cX6_firstClash 16 = .ok (.iload_n 1, 1) := by decide +kernel
theorem dX6_firstClash_17 : decode cX6_firstClash 17 = .ok (.invokevirtual 90, 3) := by decide +kernel
theorem dX6_firstClash_20 : decode cX6_firstClash 20 = .ok (.ifCond .eq 5, 3) := by decide +kernel
theorem dX6_firstClash_23 : decode cX6_firstClash 23 = .ok (.iload_n 2, 1) := by decide +kernel
theorem dX6_firstClash_24 : decode cX6_firstClash 24 = .ok (.ireturn, 1) := by decide +kernel
theorem dX6_firstClash_25 : decode cX6_firstClash 25 = .ok (.iinc 2 1, 3) := by decide +kernel
theorem dX6_firstClash_28 : decode cX6_firstClash 28 = .ok (.goto (-22), 3) := by decide +kernel
theorem dX6_firstClash_31 : decode cX6_firstClash 31 = .ok (.iconst (-1), 1) := by decide +kernel
theorem dX6_firstClash_32 : decode cX6_firstClash 32 = .ok (.ireturn, 1) := by decide +kernel
set_option maxRecDepth 20000 in
theorem ggX6_clash_X6_in : GoodIn wsX6_clash wsX6_in := goodIn_r _ [4] (by decide +kernel) (by decide +kernel)
set_option maxRecDepth 20000 in
theorem gX6_clash_X6_in : GoodIn wsX6_clash (va_wsS RX6 41 yX6_in wsX6_in) := goodIn_app (goodIn_of _ (by decide +kernel)) ggX6_clash_X6_in
set_option maxRecDepth 20000 in
theorem ggX6_clash_X6_isSound : GoodIn wsX6_clash wsX6_isSound := goodIn_r _ [8, 9, 10, 11, 3, 12, 13, 14, 15, 16, 56, 57, 58, 59, 60, 61, 62, 63, 64, 65, 66, 67, 68] (by decide +kernel) (by decide +kernel)
set_option maxRecDepth 20000 in
theorem gX6_clash_X6_isSound : GoodIn wsX6_clash (wsV RX6 57 RX6 yX6_isSound wsX6_isSound) := goodIn_app (goodIn_of _ (by decide +kernel)) ggX6_clash_X6_isSound
set_option maxRecDepth 20000 in
theorem ggX6_clash_X6_firstClash : GoodIn wsX6_clash wsX6_firstClash := goodIn_r _ [20, 14, 21, 22, 23, 3, 24, 25, 26, 27, 28, 29, 30, 31, 32, 33, 34, 35, 15, 16, 36, 37, 38, 39, 40, 41, 42, 43, 13, 44, 45, 46, 47, 48, 49, 50, 51, 52, 53, 54, 55, 56, 57, 58, 59, 60, 61, 62, 63, 64, 65, 66, 67, 68] (by decide +kernel) (by decide +kernel)
set_option maxRecDepth 20000 in
theorem gX6_clash_X6_firstClash : GoodIn wsX6_clash (wsV RX6 94 RX6 yX6_firstClash wsX6_firstClash) := goodIn_app (goodIn_of _ (by decide +kernel)) ggX6_clash_X6_firstClash
theorem dX6_clash_0 : decode cX6_clash 0 = .ok (.iload_n 1, 1) := by decide +kernel
theorem dX6_clash_1 : decode cX6_clash 1 = .ok (.iconst 0, 1) := by decide +kernel
theorem dX6_clash_2 : decode cX6_clash 2 = .ok (.iconst 1, 1) := by decide +kernel
theorem dX6_clash_3 : decode cX6_clash 3 = .ok (.invokestatic 41, 3) := by decide +kernel
theorem dX6_clash_6 : decode cX6_clash 6 = .ok (.ifCond .ne 6, 3) := by decide +kernel
theorem dX6_clash_9 : decode cX6_clash 9 = .ok (.bipush (-2), 2) := by decide +kernel
theorem dX6_clash_11 : decode cX6_clash 11 = .ok (.ireturn, 1) := by decide +kernel
theorem dX6_clash_12 : decode cX6_clash 12 = .ok (.aload_n 0, 1) := by decide +kernel
theorem dX6_clash_13 : decode cX6_clash 13 = .ok (.invokevirtual 57, 3) := by decide +kernel
theorem dX6_clash_16 : decode cX6_clash 16 = .ok (.ifCond .eq 11, 3) := by decide +kernel
theorem dX6_clash_19 : decode cX6_clash 19 = .ok (.aload_n 0, 1) := by decide +kernel
theorem dX6_clash_20 : decode cX6_clash 20 = .ok (.iload_n 1, 1) := by decide +kernel
theorem dX6_clash_21 : decode cX6_clash 21 = .ok (.invokevirtual 94, 3) := by decide +kernel
theorem dX6_clash_24 : decode cX6_clash 24 = .ok (.goto 5, 3) := by decide +kernel
theorem dX6_clash_27 : decode cX6_clash 27 = .ok (.bipush (-3), 2) := by decide +kernel
theorem dX6_clash_29 : decode cX6_clash 29 = .ok (.ireturn, 1) := by decide +kernel
set_option maxRecDepth 20000 in
theorem ggX6_clashOf_X6_in : GoodIn wsX6_clashOf wsX6_in := goodIn_r _ [4] (by decide +kernel) (by decide +kernel)
set_option maxRecDepth 20000 in
theorem gX6_clashOf_X6_in : GoodIn wsX6_clashOf (va_wsS RX6 41 yX6_in wsX6_in) := goodIn_app (goodIn_of _ (by decide +kernel)) ggX6_clashOf_X6_in
set_option maxRecDepth 20000 in
theorem ggX6_clashOf_X6_isSound : GoodIn wsX6_clashOf wsX6_isSound := goodIn_r _ [8, 9, 10, 11, 3, 12, 13, 14, 15, 16, 56, 57, 58, 59, 60, 61, 62, 63, 64, 65, 66, 67, 68] (by decide +kernel) (by decide +kernel)
set_option maxRecDepth 20000 in
theorem gX6_clashOf_X6_isSound : GoodIn wsX6_clashOf (wsV RX6 57 RX6 yX6_isSound wsX6_isSound) := goodIn_app (goodIn_of _ (by decide +kernel)) ggX6_clashOf_X6_isSound
set_option maxRecDepth 20000 in
theorem ggX6_clashOf_X6_firstClash : GoodIn wsX6_clashOf wsX6_firstClash := goodIn_r _ [20, 14, 21, 22, 23, 3, 24, 25, 26, 27, 28, 29, 30, 31, 32, 33, 34, 35, 15, 16, 36, 37, 38, 39, 40, 41, 42, 43, 13, 44, 45, 46, 47, 48, 49, 50, 51, 52, 53, 54, 55, 56, 57, 58, 59, 60, 61, 62, 63, 64, 65, 66, 67, 68] (by decide +kernel) (by decide +kernel)
set_option maxRecDepth 20000 in
theorem gX6_clashOf_X6_firstClash : GoodIn wsX6_clashOf (wsV RX6 94 RX6 yX6_firstClash wsX6_firstClash) := goodIn_app (goodIn_of _ (by decide +kernel)) ggX6_clashOf_X6_firstClash
set_option maxRecDepth 20000 in
theorem ggX6_clashOf_X6_clashAt : GoodIn wsX6_clashOf wsX6_clashAt := goodIn_r _ [39, 14, 15, 16, 40, 41, 42, 3, 43, 13, 44, 45, 46, 47, 48, 49, 50, 51, 52, 53, 54, 55, 25, 56, 57, 58, 59, 60, 61, 62, 63, 64, 65, 66, 67, 68] (by decide +kernel) (by decide +kernel)
set_option maxRecDepth 20000 in
theorem gX6_clashOf_X6_clashAt : GoodIn wsX6_clashOf (wsV RX6 90 RX6 yX6_clashAt wsX6_clashAt) := goodIn_app (goodIn_of _ (by decide +kernel)) ggX6_clashOf_X6_clashAt
theorem dX6_clashOf_0 : decode cX6_clashOf 0 = .ok (.iload_n 1, 1) := by decide +kernel
theorem dX6_clashOf_1 : decode cX6_clashOf 1 = .ok (.iconst 0, 1) := by decide +kernel
theorem dX6_clashOf_2 : decode cX6_clashOf 2 = .ok (.iconst 1, 1) := by decide +kernel
theorem dX6_clashOf_3 : decode cX6_clashOf 3 = .ok (.invokestatic 41, 3) := by decide +kernel
theorem dX6_clashOf_6 : decode cX6_clashOf 6 = .ok (.ifCond .ne 6, 3) := by decide +kernel
theorem dX6_clashOf_9 : decode cX6_clashOf 9 = .ok (.bipush (-2), 2) := by decide +kernel
theorem dX6_clashOf_11 : decode cX6_clashOf 11 = .ok (.ireturn, 1) := by decide +kernel
theorem dX6_clashOf_12 : decode cX6_clashOf 12 = .ok (.aload_n 0, 1) := by decide +kernel
theorem dX6_clashOf_13 : decode cX6_clashOf 13 = .ok (.invokevirtual 57, 3) := by decide +kernel
theorem dX6_clashOf_16 : decode cX6_clashOf 16 = .ok (.ifCond .ne 6, 3) := by decide +kernel
theorem dX6_clashOf_19 : decode cX6_clashOf 19 = .ok (.bipush (-3), 2) := by decide +kernel
theorem dX6_clashOf_21 : decode cX6_clashOf 21 = .ok (.ireturn, 1) := by decide +kernel
theorem dX6_clashOf_22 : decode cX6_clashOf 22 = .ok (.aload_n 0, 1) := by decide +kernel
theorem dX6_clashOf_23 : decode cX6_clashOf 23 = .ok (.iload_n 1, 1) := by decide +kernel
theorem dX6_clashOf_24 : decode cX6_clashOf 24 = .ok (.invokevirtual 94, 3) := by decide +kernel
theorem dX6_clashOf_27 : decode cX6_clashOf 27 = .ok (.istore_n 2, 1) := by decide +kernel
theorem dX6_clashOf_28 : decode cX6_clashOf 28 = .ok (.iconst 0, 1) := by decide +kernel
theorem dX6_clashOf_29 : decode cX6_clashOf 29 = .ok (.istore_n 3, 1) := by decide +kernel
theorem dX6_clashOf_30 : decode cX6_clashOf 30 = .ok (.iload_n 3, 1) := by decide +kernel
theorem dX6_clashOf_31 : decode cX6_clashOf 31 = .ok (.bipush 6, 2) := by decide +kernel
theorem dX6_clashOf_33 : decode cX6_clashOf 33 = .ok (.if_icmp .ge 30, 3) := by decide +kernel
theorem dX6_clashOf_36 : decode cX6_clashOf 36 = .ok (.iload_n 2, 1) := by decide +kernel
theorem dX6_clashOf_37 : decode cX6_clashOf 37 = .ok (.iconst (-1), 1) := by decide +kernel
theorem dX6_clashOf_38 : decode cX6_clashOf 38 = .ok (.if_icmp .eq 25, 3) := by decide +kernel
theorem dX6_clashOf_41 : decode cX6_clashOf 41 = .ok (.aload_n 0, 1) := by decide +kernel
theorem dX6_clashOf_42 : decode cX6_clashOf 42 = .ok (.iload_n 2, 1) := by decide +kernel
theorem dX6_clashOf_43 : decode cX6_clashOf 43 = .ok (.iload_n 1, 1) := by decide +kernel
theorem dX6_clashOf_44 : decode cX6_clashOf 44 = .ok (.invokevirtual 90, 3) := by decide +kernel
theorem dX6_clashOf_47 : decode cX6_clashOf 47 = .ok (.iload_n 3, 1) := by decide +kernel
theorem dX6_clashOf_48 : decode cX6_clashOf 48 = .ok (.ishr, 1) := by decide +kernel
theorem dX6_clashOf_49 : decode cX6_clashOf 49 = .ok (.iconst 1, 1) := by decide +kernel
theorem dX6_clashOf_50 : decode cX6_clashOf 50 = .ok (.iand, 1) := by decide +kernel
theorem dX6_clashOf_51 : decode cX6_clashOf 51 = .ok (.iconst 1, 1) := by decide +kernel
theorem dX6_clashOf_52 : decode cX6_clashOf 52 = .ok (.if_icmp .ne 5, 3) := by decide +kernel
theorem dX6_clashOf_55 : decode cX6_clashOf 55 = .ok (.iload_n 3, 1) := by decide +kernel
theorem dX6_clashOf_56 : decode cX6_clashOf 56 = .ok (.ireturn, 1) := by decide +kernel
theorem dX6_clashOf_57 : decode cX6_clashOf 57 = .ok (.iinc 3 1, 3) := by decide +kernel
theorem dX6_clashOf_60 : decode cX6_clashOf 60 = .ok (.goto (-30), 3) := by decide +kernel
theorem dX6_clashOf_63 : decode cX6_clashOf 63 = .ok (.iconst (-1), 1) := by decide +kernel
theorem dX6_clashOf_64 : decode cX6_clashOf 64 = .ok (.ireturn, 1) := by decide +kernel
set_option maxRecDepth 20000 in
theorem ggX6_groups_X6_isSound : GoodIn wsX6_groups wsX6_isSound := goodIn_r _ [6, 7, 8, 9, 5, 10, 11, 12, 13, 14, 29, 30, 31, 32, 33, 34, 35, 36, 37, 38, 39, 40, 41] (by decide +kernel) (by decide +kernel)
set_option maxRecDepth 20000 in
theorem gX6_groups_X6_isSound : GoodIn wsX6_groups (wsV RX6 57 RX6 yX6_isSound wsX6_isSound) := goodIn_app (goodIn_of _ (by decide +kernel)) ggX6_groups_X6_isSound
set_option maxRecDepth 20000 in
theorem ggX6_groups_X6_findCuts : GoodIn wsX6_groups wsX6_findCuts := goodIn_r _ [18, 12, 1, 19, 20, 5, 21, 22, 23, 24, 25, 26, 27, 28, 13, 14, 29, 30, 31, 32, 33, 34, 35, 36, 37, 38, 39, 40, 41] (by decide +kernel) (by decide +kernel)
set_option maxRecDepth 20000 in
theorem gX6_groups_X6_findCuts : GoodIn wsX6_groups (wsV RX6 87 RX6 yX6_findCuts wsX6_findCuts) := goodIn_app (goodIn_of _ (by decide +kernel)) ggX6_groups_X6_findCuts
set_option maxRecDepth 20000 in
theorem ggX6_groups_X6_ones : GoodIn wsX6_groups wsX6_ones := goodIn_r _ [21] (by decide +kernel) (by decide +kernel)
set_option maxRecDepth 20000 in
theorem gX6_groups_X6_ones : GoodIn wsX6_groups (va_wsS RX6 68 yX6_ones wsX6_ones) := goodIn_app (goodIn_of _ (by decide +kernel)) ggX6_groups_X6_ones
theorem dX6_groups_0 : decode cX6_groups 0 = .ok (.aload_n 0, 1) := by decide +kernel
theorem dX6_groups_1 : decode cX6_groups 1 = .ok (.invokevirtual 57, 3) := by decide +kernel
theorem dX6_groups_4 : decode cX6_groups 4 = .ok (.ifCond .ne 6, 3) := by decide +kernel
theorem dX6_groups_7 : decode cX6_groups 7 = .ok (.bipush (-3), 2) := by decide +kernel
theorem dX6_groups_9 : decode cX6_groups 9 = .ok (.ireturn, 1) := by decide +kernel
theorem dX6_groups_10 : decode cX6_groups 10 = .ok (.aload_n 0, 1) := by decide +kernel
theorem dX6_groups_11 : decode cX6_groups 11 = .ok (.invokevirtual 87, 3) := by decide +kernel
theorem dX6_groups_14 : decode cX6_groups 14 = .ok (.aload_n 0, 1) := by decide +kernel
theorem dX6_groups_15 : decode cX6_groups 15 = .ok (.getfield 65, 3) := by decide +kernel
theorem dX6_groups_18 : decode cX6_groups 18 = .ok (.invokestatic 68, 3) := by decide +kernel
theorem dX6_groups_21 : decode cX6_groups 21 = .ok (.ireturn, 1) := by decide +kernel
set_option maxRecDepth 20000 in
theorem ggX6_cut_X6_isSound : GoodIn wsX6_cut wsX6_isSound := goodIn_r _ [7, 8, 9, 10, 6, 11, 12, 1, 13, 14, 29, 30, 31, 32, 33, 34, 35, 36, 37, 38, 39, 40, 41] (by decide +kernel) (by decide +kernel)
set_option maxRecDepth 20000 in
theorem gX6_cut_X6_isSound : GoodIn wsX6_cut (wsV RX6 57 RX6 yX6_isSound wsX6_isSound) := goodIn_app (goodIn_of _ (by decide +kernel)) ggX6_cut_X6_isSound
set_option maxRecDepth 20000 in
theorem ggX6_cut_X6_findCuts : GoodIn wsX6_cut wsX6_findCuts := goodIn_r _ [18, 1, 2, 19, 20, 6, 21, 22, 23, 24, 25, 26, 27, 28, 13, 14, 29, 30, 31, 32, 33, 34, 35, 36, 37, 38, 39, 40, 41] (by decide +kernel) (by decide +kernel)
set_option maxRecDepth 20000 in
theorem gX6_cut_X6_findCuts : GoodIn wsX6_cut (wsV RX6 87 RX6 yX6_findCuts wsX6_findCuts) := goodIn_app (goodIn_of _ (by decide +kernel)) ggX6_cut_X6_findCuts
theorem dX6_cut_0 : decode cX6_cut 0 = .ok (.iload_n 1, 1) := by decide +kernel
theorem dX6_cut_1 : decode cX6_cut 1 = .ok (.ifCond .ge 6, 3) := by decide +kernel
theorem dX6_cut_4 : decode cX6_cut 4 = .ok (.bipush (-2), 2) := by decide +kernel
theorem dX6_cut_6 : decode cX6_cut 6 = .ok (.ireturn, 1) := by decide +kernel
theorem dX6_cut_7 : decode cX6_cut 7 = .ok (.aload_n 0, 1) := by decide +kernel
theorem dX6_cut_8 : decode cX6_cut 8 = .ok (.invokevirtual 57, 3) := by decide +kernel
theorem dX6_cut_11 : decode cX6_cut 11 = .ok (.ifCond .ne 6, 3) := by decide +kernel
theorem dX6_cut_14 : decode cX6_cut 14 = .ok (.bipush (-3), 2) := by decide +kernel
theorem dX6_cut_16 : decode cX6_cut 16 = .ok (.ireturn, 1) := by decide +kernel
theorem dX6_cut_17 : decode cX6_cut 17 = .ok (.aload_n 0, 1) := by decide +kernel
theorem dX6_cut_18 : decode cX6_cut 18 = .ok (.invokevirtual 87, 3) := by decide +kernel
theorem dX6_cut_21 : decode cX6_cut 21 = .ok (.iload_n 1, 1) := by decide +kernel
theorem dX6_cut_22 : decode cX6_cut 22 = .ok (.istore_n 2, 1) := by decide +kernel
theorem dX6_cut_23 : decode cX6_cut 23 = .ok (.iconst 0, 1) := by decide +kernel
theorem dX6_cut_24 : decode cX6_cut 24 = .ok (.istore_n 3, 1) := by decide +kernel
theorem dX6_cut_25 : decode cX6_cut 25 = .ok (.iload_n 3, 1) := by decide +kernel
theorem dX6_cut_26 : decode cX6_cut 26 = .ok (.aload_n 0, 1) := by decide +kernel
theorem dX6_cut_27 : decode cX6_cut 27 = .ok (.getfield 45, 3) := by decide +kernel
theorem dX6_cut_30 : decode cX6_cut 30 = .ok (.if_icmp .ge 30, 3) := by decide +kernel
theorem dX6_cut_33 : decode cX6_cut 33 = .ok (.aload_n 0, 1) := by decide +kernel
theorem dX6_cut_34 : decode cX6_cut 34 = .ok (.getfield 65, 3) := by decide +kernel
theorem dX6_cut_37 : decode cX6_cut 37 = .ok (.iload_n 3, 1) := by decide +kernel
theorem dX6_cut_38 : decode cX6_cut 38 = .ok (.ishr, 1) := by decide +kernel
theorem dX6_cut_39 : decode cX6_cut 39 = .ok (.iconst 1, 1) := by decide +kernel
theorem dX6_cut_40 : decode cX6_cut 40 = .ok (.iand, 1) := by decide +kernel
theorem dX6_cut_41 : decode cX6_cut 41 = .ok (.iconst 1, 1) := by decide +kernel
theorem dX6_cut_42 : decode cX6_cut 42 = .ok (.if_icmp .ne 12, 3) := by decide +kernel
theorem dX6_cut_45 : decode cX6_cut 45 = .ok (.iload_n 2, 1) := by decide +kernel
theorem dX6_cut_46 : decode cX6_cut 46 = .ok (.ifCond .ne 5, 3) := by decide +kernel
theorem dX6_cut_49 : decode cX6_cut 49 = .ok (.iload_n 3, 1) := by decide +kernel
theorem dX6_cut_50 : decode cX6_cut 50 = .ok (.ireturn, 1) := by decide +kernel
theorem dX6_cut_51 : decode cX6_cut 51 = .ok (.iinc 2 (-1), 3) := by decide +kernel
theorem dX6_cut_54 : decode cX6_cut 54 = .ok (.iinc 3 1, 3) := by decide +kernel
theorem dX6_cut_57 : decode cX6_cut 57 = .ok (.goto (-32), 3) := by decide +kernel
theorem dX6_cut_60 : decode cX6_cut 60 = .ok (.bipush (-2), 2) := by decide +kernel
theorem dX6_cut_62 : decode cX6_cut 62 = .ok (.ireturn, 1) := by decide +kernel
set_option maxRecDepth 20000 in
theorem ggX6_memories_X6_isSound : GoodIn wsX6_memories wsX6_isSound := goodIn_r _ [7, 8, 9, 10, 6, 11, 2, 1, 12, 13, 14, 15, 16, 17, 18, 19, 20, 21, 22, 23, 24, 25, 26] (by decide +kernel) (by decide +kernel)
set_option maxRecDepth 20000 in
theorem gX6_memories_X6_isSound : GoodIn wsX6_memories (wsV RX6 57 RX6 yX6_isSound wsX6_isSound) := goodIn_app (goodIn_of _ (by decide +kernel)) ggX6_memories_X6_isSound
theorem dX6_memories_0 : decode cX6_memories 0 = .ok (.aload_n 0, 1) := by decide +kernel
theorem dX6_memories_1 : decode cX6_memories 1 = .ok (.invokevirtual 57, 3) := by decide +kernel
theorem dX6_memories_4 : decode cX6_memories 4 = .ok (.ifCond .ne 6, 3) := by decide +kernel
theorem dX6_memories_7 : decode cX6_memories 7 = .ok (.bipush (-3), 2) := by decide +kernel
theorem dX6_memories_9 : decode cX6_memories 9 = .ok (.ireturn, 1) := by decide +kernel
theorem dX6_memories_10 : decode cX6_memories 10 = .ok (.iconst 0, 1) := by decide +kernel
theorem dX6_memories_11 : decode cX6_memories 11 = .ok (.istore_n 1, 1) := by decide +kernel
theorem dX6_memories_12 : decode cX6_memories 12 = .ok (.iconst 0, 1) := by decide +kernel
theorem dX6_memories_13 : decode cX6_memories 13 = .ok (.istore_n 2, 1) := by decide +kernel
theorem dX6_memories_14 : decode cX6_memories 14 = .ok (.iload_n 2, 1) := by decide +kernel
theorem dX6_memories_15 : decode cX6_memories 15 = .ok (.aload_n 0, 1) := by decide +kernel
theorem dX6_memories_16 : decode cX6_memories 16 = .ok (.getfield 45, 3) := by decide +kernel
theorem dX6_memories_19 : decode cX6_memories 19 = .ok (.if_icmp .ge 64, 3) := by decide +kernel
theorem dX6_memories_22 : decode cX6_memories 22 = .ok (.iconst 0, 1) := by decide +kernel
theorem dX6_memories_23 : decode cX6_memories 23 = .ok (.istore_n 3, 1) := by decide +kernel
theorem dX6_memories_24 : decode cX6_memories 24 = .ok (.iconst 0, 1) := by decide +kernel
theorem dX6_memories_25 : decode cX6_memories 25 = .ok (.istore 4, 2) := by decide +kernel
theorem dX6_memories_27 : decode cX6_memories 27 = .ok (.iload 4, 2) := by decide +kernel
theorem dX6_memories_29 : decode cX6_memories 29 = .ok (.aload_n 0, 1) := by decide +kernel
theorem dX6_memories_30 : decode cX6_memories 30 = .ok (.getfield 45, 3) := by decide +kernel
theorem dX6_memories_33 : decode cX6_memories 33 = .ok (.if_icmp .ge 33, 3) := by decide +kernel
theorem dX6_memories_36 : decode cX6_memories 36 = .ok (.iload_n 3, 1) := by decide +kernel
theorem dX6_memories_37 : decode cX6_memories 37 = .ok (.aload_n 0, 1) := by decide +kernel
theorem dX6_memories_38 : decode cX6_memories 38 = .ok (.getfield 35, 3) := by decide +kernel
theorem dX6_memories_41 : decode cX6_memories 41 = .ok (.iload 4, 2) := by decide +kernel
theorem dX6_memories_43 : decode cX6_memories 43 = .ok (.iaload, 1) := by decide +kernel
theorem dX6_memories_44 : decode cX6_memories 44 = .ok (.aload_n 0, 1) := by decide +kernel
theorem dX6_memories_45 : decode cX6_memories 45 = .ok (.getfield 35, 3) := by decide +kernel
theorem dX6_memories_48 : decode cX6_memories 48 = .ok (.iload_n 2, 1) := by decide +kernel
theorem dX6_memories_49 : decode cX6_memories 49 = .ok (.iaload, 1) := by decide +kernel
theorem dX6_memories_50 : decode cX6_memories 50 = .ok (.if_icmp .ne 7, 3) := by decide +kernel
theorem dX6_memories_53 : decode cX6_memories 53 = .ok (.iconst 1, 1) := by decide +kernel
theorem dX6_memories_54 : decode cX6_memories 54 = .ok (.goto 4, 3) := by decide +kernel
theorem dX6_memories_57 : decode cX6_memories 57 = .ok (.iconst 0, 1) := by decide +kernel
theorem dX6_memories_58 : decode cX6_memories 58 = .ok (.iadd, 1) := by decide +kernel
theorem dX6_memories_59 : decode cX6_memories 59 = .ok (.istore_n 3, 1) := by decide +kernel
theorem dX6_memories_60 : decode cX6_memories 60 = .ok (.iinc 4 1, 3) := by decide +kernel
theorem dX6_memories_63 : decode cX6_memories 63 = .ok (.goto (-36), 3) := by decide +kernel
theorem dX6_memories_66 : decode cX6_memories 66 = .ok (.iload_n 3, 1) := by decide +kernel
theorem dX6_memories_67 : decode cX6_memories 67 = .ok (.iload_n 1, 1) := by decide +kernel
theorem dX6_memories_68 : decode cX6_memories 68 = .ok (.if_icmp .le 7, 3) := by decide +kernel
theorem dX6_memories_71 : decode cX6_memories 71 = .ok (.iload_n 3, 1) := by decide +kernel
theorem dX6_memories_72 : decode cX6_memories 72 = .ok (.goto 4, 3) := by decide +kernel
theorem dX6_memories_75 : decode cX6_memories 75 = .ok (.iload_n 1, 1) := by decide +kernel
theorem dX6_memories_76 : decode cX6_memories 76 = .ok (.istore_n 1, 1) := by decide +kernel
theorem dX6_memories_77 : decode cX6_memories 77 = .ok (.iinc 2 1, 3) := by decide +kernel
theorem dX6_memories_80 : decode cX6_memories 80 = .ok (.goto (-66), 3) := by decide +kernel
theorem dX6_memories_83 : decode cX6_memories 83 = .ok (.iconst 0, 1) := by decide +kernel
theorem dX6_memories_84 : decode cX6_memories 84 = .ok (.istore_n 2, 1) := by decide +kernel
theorem dX6_memories_85 : decode cX6_memories 85 = .ok (.iconst 1, 1) := by decide +kernel
theorem dX6_memories_86 : decode cX6_memories 86 = .ok (.iload_n 2, 1) := by decide +kernel
theorem dX6_memories_87 : decode cX6_memories 87 = .ok (.ishl, 1) := by decide +kernel
theorem dX6_memories_88 : decode cX6_memories 88 = .ok (.iload_n 1, 1) := by decide +kernel
theorem dX6_memories_89 : decode cX6_memories 89 = .ok (.if_icmp .ge 9, 3) := by decide +kernel
theorem dX6_memories_92 : decode cX6_memories 92 = .ok (.iinc 2 1, 3) := by decide +kernel
theorem dX6_memories_95 : decode cX6_memories 95 = .ok (.goto (-10), 3) := by decide +kernel
theorem dX6_memories_98 : decode cX6_memories 98 = .ok (.iload_n 2, 1) := by decide +kernel
theorem dX6_memories_99 : decode cX6_memories 99 = .ok (.ireturn, 1) := by decide +kernel
set_option maxRecDepth 20000 in
theorem ggX6_isCylinder_X6_in : GoodIn wsX6_isCylinder wsX6_in := goodIn_r _ [4] (by decide +kernel) (by decide +kernel)
set_option maxRecDepth 20000 in
theorem gX6_isCylinder_X6_in : GoodIn wsX6_isCylinder (va_wsS RX6 41 yX6_in wsX6_in) := goodIn_app (goodIn_of _ (by decide +kernel)) ggX6_isCylinder_X6_in
theorem dX6_isCylinder_0 : decode cX6_isCylinder 0 = .ok (.iload_n 0, 1) := by decide +kernel
theorem dX6_isCylinder_1 : decode cX6_isCylinder 1 = .ok (.iconst 0, 1) := by decide +kernel
theorem dX6_isCylinder_2 : decode cX6_isCylinder 2 = .ok (.iconst 5, 1) := by decide +kernel
theorem dX6_isCylinder_3 : decode cX6_isCylinder 3 = .ok (.invokestatic 41, 3) := by decide +kernel
theorem dX6_isCylinder_6 : decode cX6_isCylinder 6 = .ok (.ireturn, 1) := by decide +kernel
set_option maxRecDepth 20000 in
theorem ggX6_pace_X6_isCylinder : GoodIn wsX6_pace wsX6_isCylinder := goodIn_r _ [6, 7, 8, 5, 9] (by decide +kernel) (by decide +kernel)
set_option maxRecDepth 20000 in
theorem gX6_pace_X6_isCylinder : GoodIn wsX6_pace (va_wsS RX6 97 yX6_isCylinder wsX6_isCylinder) := goodIn_app (goodIn_of _ (by decide +kernel)) ggX6_pace_X6_isCylinder
set_option maxRecDepth 20000 in
theorem ggX6_pace_X6_in : GoodIn wsX6_pace wsX6_in := goodIn_r _ [9] (by decide +kernel) (by decide +kernel)
set_option maxRecDepth 20000 in
theorem gX6_pace_X6_in : GoodIn wsX6_pace (va_wsS RX6 41 yX6_in wsX6_in) := goodIn_app (goodIn_of _ (by decide +kernel)) ggX6_pace_X6_in
theorem dX6_pace_0 : decode cX6_pace 0 = .ok (.iload_n 1, 1) := by decide +kernel
theorem dX6_pace_1 : decode cX6_pace 1 = .ok (.invokestatic 97, 3) := by decide +kernel
theorem dX6_pace_4 : decode cX6_pace 4 = .ok (.ifCond .eq 24, 3) := by decide +kernel
theorem dX6_pace_7 : decode cX6_pace 7 = .ok (.iload_n 3, 1) := by decide +kernel
theorem dX6_pace_8 : decode cX6_pace 8 = .ok (.iconst 1, 1) := by decide +kernel
theorem dX6_pace_9 : decode cX6_pace 9 = .ok (.bipush 100, 2) := by decide +kernel
theorem dX6_pace_11 : decode cX6_pace 11 = .ok (.invokestatic 41, 3) := by decide +kernel
theorem dX6_pace_14 : decode cX6_pace 14 = .ok (.ifCond .eq 14, 3) := by decide +kernel
theorem dX6_pace_17 : decode cX6_pace 17 = .ok (.iload 4, 2) := by decide +kernel
theorem dX6_pace_19 : decode cX6_pace 19 = .ok (.iload_n 3, 1) := by decide +kernel
theorem dX6_pace_20 : decode cX6_pace 20 = .ok (.bipush 100, 2) := by decide +kernel
theorem dX6_pace_22 : decode cX6_pace 22 = .ok (.invokestatic 41, 3) := by decide +kernel
theorem dX6_pace_25 : decode cX6_pace 25 = .ok (.ifCond .ne 6, 3) := by decide +kernel
theorem dX6_pace_28 : decode cX6_pace 28 = .ok (.bipush (-2), 2) := by decide +kernel
end
section
theorem dX6_pace_30 : decode cX6_pace 30 = .ok (.ireturn, 1) := by decide +kernel
theorem dX6_pace_31 : decode cX6_pace 31 = .ok (.iconst 2, 1) := by decide +kernel
theorem dX6_pace_32 : decode cX6_pace 32 = .ok (.iload_n 1, 1) := by decide +kernel
theorem dX6_pace_33 : decode cX6_pace 33 = .ok (.imul, 1) := by decide +kernel
theorem dX6_pace_34 : decode cX6_pace 34 = .ok (.iload_n 2, 1) := by decide +kernel
theorem dX6_pace_35 : decode cX6_pace 35 = .ok (.ifCond .eq 7, 3) := by decide +kernel
theorem dX6_pace_38 : decode cX6_pace 38 = .ok (.iconst 1, 1) := by decide +kernel
theorem dX6_pace_39 : decode cX6_pace 39 = .ok (.goto 4, 3) := by decide +kernel
theorem dX6_pace_42 : decode cX6_pace 42 = .ok (.iconst 0, 1) := by decide +kernel
theorem dX6_pace_43 : decode cX6_pace 43 = .ok (.iadd, 1) := by decide +kernel
theorem dX6_pace_44 : decode cX6_pace 44 = .ok (.istore 5, 2) := by decide +kernel
theorem dX6_pace_46 : decode cX6_pace 46 = .ok (.aload_n 0, 1) := by decide +kernel
theorem dX6_pace_47 : decode cX6_pace 47 = .ok (.getfield 16, 3) := by decide +kernel
theorem dX6_pace_50 : decode cX6_pace 50 = .ok (.iload 5, 2) := by decide +kernel
theorem dX6_pace_52 : decode cX6_pace 52 = .ok (.iload_n 3, 1) := by decide +kernel
theorem dX6_pace_53 : decode cX6_pace 53 = .ok (.iastore, 1) := by decide +kernel
theorem dX6_pace_54 : decode cX6_pace 54 = .ok (.aload_n 0, 1) := by decide +kernel
theorem dX6_pace_55 : decode cX6_pace 55 = .ok (.getfield 19, 3) := by decide +kernel
theorem dX6_pace_58 : decode cX6_pace 58 = .ok (.iload 5, 2) := by decide +kernel
theorem dX6_pace_60 : decode cX6_pace 60 = .ok (.iload 4, 2) := by decide +kernel
theorem dX6_pace_62 : decode cX6_pace 62 = .ok (.iastore, 1) := by decide +kernel
theorem dX6_pace_63 : decode cX6_pace 63 = .ok (.iconst 1, 1) := by decide +kernel
theorem dX6_pace_64 : decode cX6_pace 64 = .ok (.ireturn, 1) := by decide +kernel
theorem dX6_greatestOf_0 : decode cX6_greatestOf 0 = .ok (.iconst 0, 1) := by decide +kernel
theorem dX6_greatestOf_1 : decode cX6_greatestOf 1 = .ok (.istore_n 3, 1) := by decide +kernel
theorem dX6_greatestOf_2 : decode cX6_greatestOf 2 = .ok (.iconst 0, 1) := by decide +kernel
theorem dX6_greatestOf_3 : decode cX6_greatestOf 3 = .ok (.istore 4, 2) := by decide +kernel
theorem dX6_greatestOf_5 : decode cX6_greatestOf 5 = .ok (.iload 4, 2) := by decide +kernel
theorem dX6_greatestOf_7 : decode cX6_greatestOf 7 = .ok (.bipush 6, 2) := by decide +kernel
theorem dX6_greatestOf_9 : decode cX6_greatestOf 9 = .ok (.if_icmp .ge 85, 3) := by decide +kernel
theorem dX6_greatestOf_12 : decode cX6_greatestOf 12 = .ok (.aload_n 0, 1) := by decide +kernel
theorem dX6_greatestOf_13 : decode cX6_greatestOf 13 = .ok (.getfield 13, 3) := by decide +kernel
theorem dX6_greatestOf_16 : decode cX6_greatestOf 16 = .ok (.iload_n 1, 1) := by decide +kernel
theorem dX6_greatestOf_17 : decode cX6_greatestOf 17 = .ok (.iaload, 1) := by decide +kernel
theorem dX6_greatestOf_18 : decode cX6_greatestOf 18 = .ok (.iload 4, 2) := by decide +kernel
theorem dX6_greatestOf_20 : decode cX6_greatestOf 20 = .ok (.ishr, 1) := by decide +kernel
theorem dX6_greatestOf_21 : decode cX6_greatestOf 21 = .ok (.iconst 1, 1) := by decide +kernel
theorem dX6_greatestOf_22 : decode cX6_greatestOf 22 = .ok (.iand, 1) := by decide +kernel
theorem dX6_greatestOf_23 : decode cX6_greatestOf 23 = .ok (.iconst 1, 1) := by decide +kernel
theorem dX6_greatestOf_24 : decode cX6_greatestOf 24 = .ok (.if_icmp .ne 22, 3) := by decide +kernel
theorem dX6_greatestOf_27 : decode cX6_greatestOf 27 = .ok (.aload_n 2, 1) := by decide +kernel
theorem dX6_greatestOf_28 : decode cX6_greatestOf 28 = .ok (.iconst 2, 1) := by decide +kernel
theorem dX6_greatestOf_29 : decode cX6_greatestOf 29 = .ok (.iload 4, 2) := by decide +kernel
theorem dX6_greatestOf_31 : decode cX6_greatestOf 31 = .ok (.imul, 1) := by decide +kernel
theorem dX6_greatestOf_32 : decode cX6_greatestOf 32 = .ok (.iaload, 1) := by decide +kernel
theorem dX6_greatestOf_33 : decode cX6_greatestOf 33 = .ok (.iload_n 3, 1) := by decide +kernel
theorem dX6_greatestOf_34 : decode cX6_greatestOf 34 = .ok (.if_icmp .le 12, 3) := by decide +kernel
theorem dX6_greatestOf_37 : decode cX6_greatestOf 37 = .ok (.aload_n 2, 1) := by decide +kernel
theorem dX6_greatestOf_38 : decode cX6_greatestOf 38 = .ok (.iconst 2, 1) := by decide +kernel
theorem dX6_greatestOf_39 : decode cX6_greatestOf 39 = .ok (.iload 4, 2) := by decide +kernel
theorem dX6_greatestOf_41 : decode cX6_greatestOf 41 = .ok (.imul, 1) := by decide +kernel
theorem dX6_greatestOf_42 : decode cX6_greatestOf 42 = .ok (.iaload, 1) := by decide +kernel
theorem dX6_greatestOf_43 : decode cX6_greatestOf 43 = .ok (.goto 4, 3) := by decide +kernel
theorem dX6_greatestOf_46 : decode cX6_greatestOf 46 = .ok (.iload_n 3, 1) := by decide +kernel
theorem dX6_greatestOf_47 : decode cX6_greatestOf 47 = .ok (.istore_n 3, 1) := by decide +kernel
theorem dX6_greatestOf_48 : decode cX6_greatestOf 48 = .ok (.aload_n 0, 1) := by decide +kernel
theorem dX6_greatestOf_49 : decode cX6_greatestOf 49 = .ok (.getfield 7, 3) := by decide +kernel
theorem dX6_greatestOf_52 : decode cX6_greatestOf 52 = .ok (.iload_n 1, 1) := by decide +kernel
theorem dX6_greatestOf_53 : decode cX6_greatestOf 53 = .ok (.iaload, 1) := by decide +kernel
theorem dX6_greatestOf_54 : decode cX6_greatestOf 54 = .ok (.iload 4, 2) := by decide +kernel
theorem dX6_greatestOf_56 : decode cX6_greatestOf 56 = .ok (.ishr, 1) := by decide +kernel
theorem dX6_greatestOf_57 : decode cX6_greatestOf 57 = .ok (.iconst 1, 1) := by decide +kernel
theorem dX6_greatestOf_58 : decode cX6_greatestOf 58 = .ok (.iand, 1) := by decide +kernel
theorem dX6_greatestOf_59 : decode cX6_greatestOf 59 = .ok (.iconst 1, 1) := by decide +kernel
theorem dX6_greatestOf_60 : decode cX6_greatestOf 60 = .ok (.if_icmp .ne 26, 3) := by decide +kernel
theorem dX6_greatestOf_63 : decode cX6_greatestOf 63 = .ok (.aload_n 2, 1) := by decide +kernel
theorem dX6_greatestOf_64 : decode cX6_greatestOf 64 = .ok (.iconst 2, 1) := by decide +kernel
theorem dX6_greatestOf_65 : decode cX6_greatestOf 65 = .ok (.iload 4, 2) := by decide +kernel
theorem dX6_greatestOf_67 : decode cX6_greatestOf 67 = .ok (.imul, 1) := by decide +kernel
theorem dX6_greatestOf_68 : decode cX6_greatestOf 68 = .ok (.iconst 1, 1) := by decide +kernel
theorem dX6_greatestOf_69 : decode cX6_greatestOf 69 = .ok (.iadd, 1) := by decide +kernel
theorem dX6_greatestOf_70 : decode cX6_greatestOf 70 = .ok (.iaload, 1) := by decide +kernel
theorem dX6_greatestOf_71 : decode cX6_greatestOf 71 = .ok (.iload_n 3, 1) := by decide +kernel
theorem dX6_greatestOf_72 : decode cX6_greatestOf 72 = .ok (.if_icmp .le 14, 3) := by decide +kernel
theorem dX6_greatestOf_75 : decode cX6_greatestOf 75 = .ok (.aload_n 2, 1) := by decide +kernel
theorem dX6_greatestOf_76 : decode cX6_greatestOf 76 = .ok (.iconst 2, 1) := by decide +kernel
theorem dX6_greatestOf_77 : decode cX6_greatestOf 77 = .ok (.iload 4, 2) := by decide +kernel
theorem dX6_greatestOf_79 : decode cX6_greatestOf 79 = .ok (.imul, 1) := by decide +kernel
theorem dX6_greatestOf_80 : decode cX6_greatestOf 80 = .ok (.iconst 1, 1) := by decide +kernel
theorem dX6_greatestOf_81 : decode cX6_greatestOf 81 = .ok (.iadd, 1) := by decide +kernel
theorem dX6_greatestOf_82 : decode cX6_greatestOf 82 = .ok (.iaload, 1) := by decide +kernel
theorem dX6_greatestOf_83 : decode cX6_greatestOf 83 = .ok (.goto 4, 3) := by decide +kernel
theorem dX6_greatestOf_86 : decode cX6_greatestOf 86 = .ok (.iload_n 3, 1) := by decide +kernel
theorem dX6_greatestOf_87 : decode cX6_greatestOf 87 = .ok (.istore_n 3, 1) := by decide +kernel
theorem dX6_greatestOf_88 : decode cX6_greatestOf 88 = .ok (.iinc 4 1, 3) := by decide +kernel
theorem dX6_greatestOf_91 : decode cX6_greatestOf 91 = .ok (.goto (-86), 3) := by decide +kernel
theorem dX6_greatestOf_94 : decode cX6_greatestOf 94 = .ok (.iload_n 3, 1) := by decide +kernel
theorem dX6_greatestOf_95 : decode cX6_greatestOf 95 = .ok (.ireturn, 1) := by decide +kernel
set_option maxRecDepth 20000 in
theorem ggX6_span_X6_in : GoodIn wsX6_span wsX6_in := goodIn_r _ [7] (by decide +kernel) (by decide +kernel)
set_option maxRecDepth 20000 in
theorem gX6_span_X6_in : GoodIn wsX6_span (va_wsS RX6 41 yX6_in wsX6_in) := goodIn_app (goodIn_of _ (by decide +kernel)) ggX6_span_X6_in
set_option maxRecDepth 20000 in
theorem ggX6_span_X6_isSound : GoodIn wsX6_span wsX6_isSound := goodIn_r _ [11, 12, 13, 14, 6, 15, 16, 1, 17, 18, 23, 24, 25, 26, 27, 28, 29, 30, 31, 32, 33, 34, 35] (by decide +kernel) (by decide +kernel)
set_option maxRecDepth 20000 in
theorem gX6_span_X6_isSound : GoodIn wsX6_span (wsV RX6 57 RX6 yX6_isSound wsX6_isSound) := goodIn_app (goodIn_of _ (by decide +kernel)) ggX6_span_X6_isSound
set_option maxRecDepth 20000 in
theorem ggX6_span_X6_greatestOf : GoodIn wsX6_span wsX6_greatestOf := goodIn_r _ [22, 18, 17, 23, 24, 25, 26, 27, 28, 29, 30, 31, 32, 33, 34, 35] (by decide +kernel) (by decide +kernel)
set_option maxRecDepth 20000 in
theorem gX6_span_X6_greatestOf : GoodIn wsX6_span (wsV RX6 100 RX6 yX6_greatestOf wsX6_greatestOf) := goodIn_app (goodIn_of _ (by decide +kernel)) ggX6_span_X6_greatestOf
theorem dX6_span_0 : decode cX6_span 0 = .ok (.iload_n 1, 1) := by decide +kernel
theorem dX6_span_1 : decode cX6_span 1 = .ok (.iconst 0, 1) := by decide +kernel
theorem dX6_span_2 : decode cX6_span 2 = .ok (.iconst 2, 1) := by decide +kernel
theorem dX6_span_3 : decode cX6_span 3 = .ok (.invokestatic 41, 3) := by decide +kernel
theorem dX6_span_6 : decode cX6_span 6 = .ok (.ifCond .ne 6, 3) := by decide +kernel
theorem dX6_span_9 : decode cX6_span 9 = .ok (.bipush (-2), 2) := by decide +kernel
theorem dX6_span_11 : decode cX6_span 11 = .ok (.ireturn, 1) := by decide +kernel
theorem dX6_span_12 : decode cX6_span 12 = .ok (.aload_n 0, 1) := by decide +kernel
theorem dX6_span_13 : decode cX6_span 13 = .ok (.invokevirtual 57, 3) := by decide +kernel
theorem dX6_span_16 : decode cX6_span 16 = .ok (.ifCond .ne 6, 3) := by decide +kernel
theorem dX6_span_19 : decode cX6_span 19 = .ok (.bipush (-3), 2) := by decide +kernel
theorem dX6_span_21 : decode cX6_span 21 = .ok (.ireturn, 1) := by decide +kernel
theorem dX6_span_22 : decode cX6_span 22 = .ok (.iconst 0, 1) := by decide +kernel
theorem dX6_span_23 : decode cX6_span 23 = .ok (.istore_n 2, 1) := by decide +kernel
theorem dX6_span_24 : decode cX6_span 24 = .ok (.iconst 0, 1) := by decide +kernel
theorem dX6_span_25 : decode cX6_span 25 = .ok (.istore_n 3, 1) := by decide +kernel
theorem dX6_span_26 : decode cX6_span 26 = .ok (.iconst 0, 1) := by decide +kernel
theorem dX6_span_27 : decode cX6_span 27 = .ok (.istore 4, 2) := by decide +kernel
theorem dX6_span_29 : decode cX6_span 29 = .ok (.iload 4, 2) := by decide +kernel
theorem dX6_span_31 : decode cX6_span 31 = .ok (.aload_n 0, 1) := by decide +kernel
theorem dX6_span_32 : decode cX6_span 32 = .ok (.getfield 45, 3) := by decide +kernel
theorem dX6_span_35 : decode cX6_span 35 = .ok (.if_icmp .ge 62, 3) := by decide +kernel
theorem dX6_span_38 : decode cX6_span 38 = .ok (.iload_n 2, 1) := by decide +kernel
theorem dX6_span_39 : decode cX6_span 39 = .ok (.aload_n 0, 1) := by decide +kernel
theorem dX6_span_40 : decode cX6_span 40 = .ok (.iload 4, 2) := by decide +kernel
theorem dX6_span_42 : decode cX6_span 42 = .ok (.iload_n 1, 1) := by decide +kernel
theorem dX6_span_43 : decode cX6_span 43 = .ok (.ifCond .ne 10, 3) := by decide +kernel
theorem dX6_span_46 : decode cX6_span 46 = .ok (.aload_n 0, 1) := by decide +kernel
theorem dX6_span_47 : decode cX6_span 47 = .ok (.getfield 16, 3) := by decide +kernel
theorem dX6_span_50 : decode cX6_span 50 = .ok (.goto 7, 3) := by decide +kernel
theorem dX6_span_53 : decode cX6_span 53 = .ok (.aload_n 0, 1) := by decide +kernel
theorem dX6_span_54 : decode cX6_span 54 = .ok (.getfield 19, 3) := by decide +kernel
theorem dX6_span_57 : decode cX6_span 57 = .ok (.invokevirtual 100, 3) := by decide +kernel
theorem dX6_span_60 : decode cX6_span 60 = .ok (.iadd, 1) := by decide +kernel
theorem dX6_span_61 : decode cX6_span 61 = .ok (.istore_n 2, 1) := by decide +kernel
theorem dX6_span_62 : decode cX6_span 62 = .ok (.aload_n 0, 1) := by decide +kernel
theorem dX6_span_63 : decode cX6_span 63 = .ok (.iload 4, 2) := by decide +kernel
theorem dX6_span_65 : decode cX6_span 65 = .ok (.aload_n 0, 1) := by decide +kernel
theorem dX6_span_66 : decode cX6_span 66 = .ok (.getfield 19, 3) := by decide +kernel
theorem dX6_span_69 : decode cX6_span 69 = .ok (.invokevirtual 100, 3) := by decide +kernel
theorem dX6_span_72 : decode cX6_span 72 = .ok (.aload_n 0, 1) := by decide +kernel
theorem dX6_span_73 : decode cX6_span 73 = .ok (.iload_n 3, 1) := by decide +kernel
theorem dX6_span_74 : decode cX6_span 74 = .ok (.aload_n 0, 1) := by decide +kernel
theorem dX6_span_75 : decode cX6_span 75 = .ok (.getfield 19, 3) := by decide +kernel
theorem dX6_span_78 : decode cX6_span 78 = .ok (.invokevirtual 100, 3) := by decide +kernel
theorem dX6_span_81 : decode cX6_span 81 = .ok (.if_icmp .le 8, 3) := by decide +kernel
theorem dX6_span_84 : decode cX6_span 84 = .ok (.iload 4, 2) := by decide +kernel
theorem dX6_span_86 : decode cX6_span 86 = .ok (.goto 4, 3) := by decide +kernel
theorem dX6_span_89 : decode cX6_span 89 = .ok (.iload_n 3, 1) := by decide +kernel
theorem dX6_span_90 : decode cX6_span 90 = .ok (.istore_n 3, 1) := by decide +kernel
theorem dX6_span_91 : decode cX6_span 91 = .ok (.iinc 4 1, 3) := by decide +kernel
theorem dX6_span_94 : decode cX6_span 94 = .ok (.goto (-65), 3) := by decide +kernel
theorem dX6_span_97 : decode cX6_span 97 = .ok (.iload_n 1, 1) := by decide +kernel
theorem dX6_span_98 : decode cX6_span 98 = .ok (.iconst 2, 1) := by decide +kernel
theorem dX6_span_99 : decode cX6_span 99 = .ok (.if_icmp .ne 7, 3) := by decide +kernel
theorem dX6_span_102 : decode cX6_span 102 = .ok (.iload_n 3, 1) := by decide +kernel
theorem dX6_span_103 : decode cX6_span 103 = .ok (.goto 4, 3) := by decide +kernel
theorem dX6_span_106 : decode cX6_span 106 = .ok (.iload_n 2, 1) := by decide +kernel
theorem dX6_span_107 : decode cX6_span 107 = .ok (.ireturn, 1) := by decide +kernel
set_option maxRecDepth 20000 in
theorem ggX6_law_X6_isCylinder : GoodIn wsX6_law wsX6_isCylinder := goodIn_r _ [9, 10, 11, 8, 12] (by decide +kernel) (by decide +kernel)
set_option maxRecDepth 20000 in
theorem gX6_law_X6_isCylinder : GoodIn wsX6_law (va_wsS RX6 97 yX6_isCylinder wsX6_isCylinder) := goodIn_app (goodIn_of _ (by decide +kernel)) ggX6_law_X6_isCylinder
theorem dX6_law_0 : decode cX6_law 0 = .ok (.iload_n 1, 1) := by decide +kernel
theorem dX6_law_1 : decode cX6_law 1 = .ok (.invokestatic 97, 3) := by decide +kernel
theorem dX6_law_4 : decode cX6_law 4 = .ok (.ifCond .eq 15, 3) := by decide +kernel
theorem dX6_law_7 : decode cX6_law 7 = .ok (.iload_n 3, 1) := by decide +kernel
theorem dX6_law_8 : decode cX6_law 8 = .ok (.invokestatic 97, 3) := by decide +kernel
theorem dX6_law_11 : decode cX6_law 11 = .ok (.ifCond .eq 8, 3) := by decide +kernel
theorem dX6_law_14 : decode cX6_law 14 = .ok (.iload_n 1, 1) := by decide +kernel
theorem dX6_law_15 : decode cX6_law 15 = .ok (.iload_n 3, 1) := by decide +kernel
theorem dX6_law_16 : decode cX6_law 16 = .ok (.if_icmp .ne 6, 3) := by decide +kernel
theorem dX6_law_19 : decode cX6_law 19 = .ok (.bipush (-2), 2) := by decide +kernel
theorem dX6_law_21 : decode cX6_law 21 = .ok (.ireturn, 1) := by decide +kernel
theorem dX6_law_22 : decode cX6_law 22 = .ok (.aload_n 0, 1) := by decide +kernel
theorem dX6_law_23 : decode cX6_law 23 = .ok (.getfield 104, 3) := by decide +kernel
theorem dX6_law_26 : decode cX6_law 26 = .ok (.bipush 12, 2) := by decide +kernel
theorem dX6_law_28 : decode cX6_law 28 = .ok (.if_icmp .ne 6, 3) := by decide +kernel
theorem dX6_law_31 : decode cX6_law 31 = .ok (.bipush (-4), 2) := by decide +kernel
theorem dX6_law_33 : decode cX6_law 33 = .ok (.ireturn, 1) := by decide +kernel
theorem dX6_law_34 : decode cX6_law 34 = .ok (.aload_n 0, 1) := by decide +kernel
theorem dX6_law_35 : decode cX6_law 35 = .ok (.getfield 22, 3) := by decide +kernel
theorem dX6_law_38 : decode cX6_law 38 = .ok (.aload_n 0, 1) := by decide +kernel
theorem dX6_law_39 : decode cX6_law 39 = .ok (.getfield 104, 3) := by decide +kernel
theorem dX6_law_42 : decode cX6_law 42 = .ok (.iload_n 1, 1) := by decide +kernel
theorem dX6_law_43 : decode cX6_law 43 = .ok (.iastore, 1) := by decide +kernel
theorem dX6_law_44 : decode cX6_law 44 = .ok (.aload_n 0, 1) := by decide +kernel
theorem dX6_law_45 : decode cX6_law 45 = .ok (.getfield 25, 3) := by decide +kernel
theorem dX6_law_48 : decode cX6_law 48 = .ok (.aload_n 0, 1) := by decide +kernel
theorem dX6_law_49 : decode cX6_law 49 = .ok (.getfield 104, 3) := by decide +kernel
theorem dX6_law_52 : decode cX6_law 52 = .ok (.iload_n 2, 1) := by decide +kernel
theorem dX6_law_53 : decode cX6_law 53 = .ok (.bastore, 1) := by decide +kernel
theorem dX6_law_54 : decode cX6_law 54 = .ok (.aload_n 0, 1) := by decide +kernel
theorem dX6_law_55 : decode cX6_law 55 = .ok (.getfield 29, 3) := by decide +kernel
theorem dX6_law_58 : decode cX6_law 58 = .ok (.aload_n 0, 1) := by decide +kernel
theorem dX6_law_59 : decode cX6_law 59 = .ok (.getfield 104, 3) := by decide +kernel
theorem dX6_law_62 : decode cX6_law 62 = .ok (.iload_n 3, 1) := by decide +kernel
theorem dX6_law_63 : decode cX6_law 63 = .ok (.iastore, 1) := by decide +kernel
theorem dX6_law_64 : decode cX6_law 64 = .ok (.aload_n 0, 1) := by decide +kernel
theorem dX6_law_65 : decode cX6_law 65 = .ok (.getfield 32, 3) := by decide +kernel
theorem dX6_law_68 : decode cX6_law 68 = .ok (.aload_n 0, 1) := by decide +kernel
theorem dX6_law_69 : decode cX6_law 69 = .ok (.getfield 104, 3) := by decide +kernel
theorem dX6_law_72 : decode cX6_law 72 = .ok (.iload 4, 2) := by decide +kernel
theorem dX6_law_74 : decode cX6_law 74 = .ok (.bastore, 1) := by decide +kernel
theorem dX6_law_75 : decode cX6_law 75 = .ok (.aload_n 0, 1) := by decide +kernel
theorem dX6_law_76 : decode cX6_law 76 = .ok (.dup, 1) := by decide +kernel
theorem dX6_law_77 : decode cX6_law 77 = .ok (.getfield 104, 3) := by decide +kernel
theorem dX6_law_80 : decode cX6_law 80 = .ok (.iconst 1, 1) := by decide +kernel
theorem dX6_law_81 : decode cX6_law 81 = .ok (.iadd, 1) := by decide +kernel
theorem dX6_law_82 : decode cX6_law 82 = .ok (.putfield 104, 3) := by decide +kernel
theorem dX6_law_85 : decode cX6_law 85 = .ok (.aload_n 0, 1) := by decide +kernel
theorem dX6_law_86 : decode cX6_law 86 = .ok (.getfield 104, 3) := by decide +kernel
theorem dX6_law_89 : decode cX6_law 89 = .ok (.iconst 1, 1) := by decide +kernel
theorem dX6_law_90 : decode cX6_law 90 = .ok (.isub, 1) := by decide +kernel
theorem dX6_law_91 : decode cX6_law 91 = .ok (.ireturn, 1) := by decide +kernel
set_option maxRecDepth 20000 in
theorem ggX6_repeal_X6_in : GoodIn wsX6_repeal wsX6_in := goodIn_r _ [9] (by decide +kernel) (by decide +kernel)
set_option maxRecDepth 20000 in
theorem gX6_repeal_X6_in : GoodIn wsX6_repeal (va_wsS RX6 41 yX6_in wsX6_in) := goodIn_app (goodIn_of _ (by decide +kernel)) ggX6_repeal_X6_in
theorem dX6_repeal_0 : decode cX6_repeal 0 = .ok (.iload_n 1, 1) := by decide +kernel
theorem dX6_repeal_1 : decode cX6_repeal 1 = .ok (.iconst 0, 1) := by decide +kernel
theorem dX6_repeal_2 : decode cX6_repeal 2 = .ok (.aload_n 0, 1) := by decide +kernel
theorem dX6_repeal_3 : decode cX6_repeal 3 = .ok (.getfield 104, 3) := by decide +kernel
theorem dX6_repeal_6 : decode cX6_repeal 6 = .ok (.iconst 1, 1) := by decide +kernel
theorem dX6_repeal_7 : decode cX6_repeal 7 = .ok (.isub, 1) := by decide +kernel
theorem dX6_repeal_8 : decode cX6_repeal 8 = .ok (.invokestatic 41, 3) := by decide +kernel
theorem dX6_repeal_11 : decode cX6_repeal 11 = .ok (.ifCond .ne 6, 3) := by decide +kernel
theorem dX6_repeal_14 : decode cX6_repeal 14 = .ok (.bipush (-2), 2) := by decide +kernel
theorem dX6_repeal_16 : decode cX6_repeal 16 = .ok (.ireturn, 1) := by decide +kernel
theorem dX6_repeal_17 : decode cX6_repeal 17 = .ok (.aload_n 0, 1) := by decide +kernel
theorem dX6_repeal_18 : decode cX6_repeal 18 = .ok (.dup, 1) := by decide +kernel
theorem dX6_repeal_19 : decode cX6_repeal 19 = .ok (.getfield 104, 3) := by decide +kernel
theorem dX6_repeal_22 : decode cX6_repeal 22 = .ok (.iconst 1, 1) := by decide +kernel
theorem dX6_repeal_23 : decode cX6_repeal 23 = .ok (.isub, 1) := by decide +kernel
theorem dX6_repeal_24 : decode cX6_repeal 24 = .ok (.putfield 104, 3) := by decide +kernel
theorem dX6_repeal_27 : decode cX6_repeal 27 = .ok (.iload_n 1, 1) := by decide +kernel
theorem dX6_repeal_28 : decode cX6_repeal 28 = .ok (.istore_n 2, 1) := by decide +kernel
theorem dX6_repeal_29 : decode cX6_repeal 29 = .ok (.iload_n 2, 1) := by decide +kernel
theorem dX6_repeal_30 : decode cX6_repeal 30 = .ok (.aload_n 0, 1) := by decide +kernel
theorem dX6_repeal_31 : decode cX6_repeal 31 = .ok (.getfield 104, 3) := by decide +kernel
theorem dX6_repeal_34 : decode cX6_repeal 34 = .ok (.if_icmp .ge 65, 3) := by decide +kernel
theorem dX6_repeal_37 : decode cX6_repeal 37 = .ok (.aload_n 0, 1) := by decide +kernel
theorem dX6_repeal_38 : decode cX6_repeal 38 = .ok (.getfield 22, 3) := by decide +kernel
theorem dX6_repeal_41 : decode cX6_repeal 41 = .ok (.iload_n 2, 1) := by decide +kernel
theorem dX6_repeal_42 : decode cX6_repeal 42 = .ok (.aload_n 0, 1) := by decide +kernel
theorem dX6_repeal_43 : decode cX6_repeal 43 = .ok (.getfield 22, 3) := by decide +kernel
theorem dX6_repeal_46 : decode cX6_repeal 46 = .ok (.iload_n 2, 1) := by decide +kernel
theorem dX6_repeal_47 : decode cX6_repeal 47 = .ok (.iconst 1, 1) := by decide +kernel
theorem dX6_repeal_48 : decode cX6_repeal 48 = .ok (.iadd, 1) := by decide +kernel
theorem dX6_repeal_49 : decode cX6_repeal 49 = .ok (.iaload, 1) := by decide +kernel
theorem dX6_repeal_50 : decode cX6_repeal 50 = .ok (.iastore, 1) := by decide +kernel
theorem dX6_repeal_51 : decode cX6_repeal 51 = .ok (.aload_n 0, 1) := by decide +kernel
theorem dX6_repeal_52 : decode cX6_repeal 52 = .ok (.getfield 25, 3) := by decide +kernel
theorem dX6_repeal_55 : decode cX6_repeal 55 = .ok (.iload_n 2, 1) := by decide +kernel
theorem dX6_repeal_56 : decode cX6_repeal 56 = .ok (.aload_n 0, 1) := by decide +kernel
theorem dX6_repeal_57 : decode cX6_repeal 57 = .ok (.getfield 25, 3) := by decide +kernel
theorem dX6_repeal_60 : decode cX6_repeal 60 = .ok (.iload_n 2, 1) := by decide +kernel
theorem dX6_repeal_61 : decode cX6_repeal 61 = .ok (.iconst 1, 1) := by decide +kernel
theorem dX6_repeal_62 : decode cX6_repeal 62 = .ok (.iadd, 1) := by decide +kernel
theorem dX6_repeal_63 : decode cX6_repeal 63 = .ok (.baload, 1) := by decide +kernel
theorem dX6_repeal_64 : decode cX6_repeal 64 = .ok (.bastore, 1) := by decide +kernel
theorem dX6_repeal_65 : decode cX6_repeal 65 = .ok (.aload_n 0, 1) := by decide +kernel
theorem dX6_repeal_66 : decode cX6_repeal 66 = .ok (.getfield 29, 3) := by decide +kernel
theorem dX6_repeal_69 : decode cX6_repeal 69 = .ok (.iload_n 2, 1) := by decide +kernel
theorem dX6_repeal_70 : decode cX6_repeal 70 = .ok (.aload_n 0, 1) := by decide +kernel
theorem dX6_repeal_71 : decode cX6_repeal 71 = .ok (.getfield 29, 3) := by decide +kernel
theorem dX6_repeal_74 : decode cX6_repeal 74 = .ok (.iload_n 2, 1) := by decide +kernel
theorem dX6_repeal_75 : decode cX6_repeal 75 = .ok (.iconst 1, 1) := by decide +kernel
theorem dX6_repeal_76 : decode cX6_repeal 76 = .ok (.iadd, 1) := by decide +kernel
theorem dX6_repeal_77 : decode cX6_repeal 77 = .ok (.iaload, 1) := by decide +kernel
theorem dX6_repeal_78 : decode cX6_repeal 78 = .ok (.iastore, 1) := by decide +kernel
theorem dX6_repeal_79 : decode cX6_repeal 79 = .ok (.aload_n 0, 1) := by decide +kernel
theorem dX6_repeal_80 : decode cX6_repeal 80 = .ok (.getfield 32, 3) := by decide +kernel
theorem dX6_repeal_83 : decode cX6_repeal 83 = .ok (.iload_n 2, 1) := by decide +kernel
theorem dX6_repeal_84 : decode cX6_repeal 84 = .ok (.aload_n 0, 1) := by decide +kernel
theorem dX6_repeal_85 : decode cX6_repeal 85 = .ok (.getfield 32, 3) := by decide +kernel
theorem dX6_repeal_88 : decode cX6_repeal 88 = .ok (.iload_n 2, 1) := by decide +kernel
theorem dX6_repeal_89 : decode cX6_repeal 89 = .ok (.iconst 1, 1) := by decide +kernel
theorem dX6_repeal_90 : decode cX6_repeal 90 = .ok (.iadd, 1) := by decide +kernel
theorem dX6_repeal_91 : decode cX6_repeal 91 = .ok (.baload, 1) := by decide +kernel
theorem dX6_repeal_92 : decode cX6_repeal 92 = .ok (.bastore, 1) := by decide +kernel
theorem dX6_repeal_93 : decode cX6_repeal 93 = .ok (.iinc 2 1, 3) := by decide +kernel
theorem dX6_repeal_96 : decode cX6_repeal 96 = .ok (.goto (-67), 3) := by decide +kernel
theorem dX6_repeal_99 : decode cX6_repeal 99 = .ok (.iconst 1, 1) := by decide +kernel
theorem dX6_repeal_100 : decode cX6_repeal 100 = .ok (.ireturn, 1) := by decide +kernel
theorem dX6_breaks_0 : decode cX6_breaks 0 = .ok (.iconst 0, 1) := by decide +kernel
theorem dX6_breaks_1 : decode cX6_breaks 1 = .ok (.istore 4, 2) := by decide +kernel
theorem dX6_breaks_3 : decode cX6_breaks 3 = .ok (.iconst 0, 1) := by decide +kernel
theorem dX6_breaks_4 : decode cX6_breaks 4 = .ok (.istore 5, 2) := by decide +kernel
theorem dX6_breaks_6 : decode cX6_breaks 6 = .ok (.iload 5, 2) := by decide +kernel
theorem dX6_breaks_8 : decode cX6_breaks 8 = .ok (.aload_n 0, 1) := by decide +kernel
theorem dX6_breaks_9 : decode cX6_breaks 9 = .ok (.getfield 104, 3) := by decide +kernel
theorem dX6_breaks_12 : decode cX6_breaks 12 = .ok (.if_icmp .ge 133, 3) := by decide +kernel
theorem dX6_breaks_15 : decode cX6_breaks 15 = .ok (.aload_n 0, 1) := by decide +kernel
theorem dX6_breaks_16 : decode cX6_breaks 16 = .ok (.getfield 25, 3) := by decide +kernel
theorem dX6_breaks_19 : decode cX6_breaks 19 = .ok (.iload 5, 2) := by decide +kernel
theorem dX6_breaks_21 : decode cX6_breaks 21 = .ok (.baload, 1) := by decide +kernel
theorem dX6_breaks_22 : decode cX6_breaks 22 = .ok (.ifCond .eq 7, 3) := by decide +kernel
theorem dX6_breaks_25 : decode cX6_breaks 25 = .ok (.iload_n 1, 1) := by decide +kernel
theorem dX6_breaks_26 : decode cX6_breaks 26 = .ok (.goto 4, 3) := by decide +kernel
theorem dX6_breaks_29 : decode cX6_breaks 29 = .ok (.iload_n 2, 1) := by decide +kernel
theorem dX6_breaks_30 : decode cX6_breaks 30 = .ok (.aload_n 0, 1) := by decide +kernel
theorem dX6_breaks_31 : decode cX6_breaks 31 = .ok (.getfield 22, 3) := by decide +kernel
theorem dX6_breaks_34 : decode cX6_breaks 34 = .ok (.iload 5, 2) := by decide +kernel
theorem dX6_breaks_36 : decode cX6_breaks 36 = .ok (.iaload, 1) := by decide +kernel
theorem dX6_breaks_37 : decode cX6_breaks 37 = .ok (.ishr, 1) := by decide +kernel
theorem dX6_breaks_38 : decode cX6_breaks 38 = .ok (.iconst 1, 1) := by decide +kernel
theorem dX6_breaks_39 : decode cX6_breaks 39 = .ok (.iand, 1) := by decide +kernel
theorem dX6_breaks_40 : decode cX6_breaks 40 = .ok (.iconst 1, 1) := by decide +kernel
theorem dX6_breaks_41 : decode cX6_breaks 41 = .ok (.if_icmp .ne 7, 3) := by decide +kernel
theorem dX6_breaks_44 : decode cX6_breaks 44 = .ok (.iconst 1, 1) := by decide +kernel
theorem dX6_breaks_45 : decode cX6_breaks 45 = .ok (.goto 4, 3) := by decide +kernel
theorem dX6_breaks_48 : decode cX6_breaks 48 = .ok (.iconst 0, 1) := by decide +kernel
theorem dX6_breaks_49 : decode cX6_breaks 49 = .ok (.istore 6, 2) := by decide +kernel
theorem dX6_breaks_51 : decode cX6_breaks 51 = .ok (.iload_n 3, 1) := by decide +kernel
theorem dX6_breaks_52 : decode cX6_breaks 52 = .ok (.aload_n 0, 1) := by decide +kernel
theorem dX6_breaks_53 : decode cX6_breaks 53 = .ok (.getfield 29, 3) := by decide +kernel
theorem dX6_breaks_56 : decode cX6_breaks 56 = .ok (.iload 5, 2) := by decide +kernel
theorem dX6_breaks_58 : decode cX6_breaks 58 = .ok (.iaload, 1) := by decide +kernel
theorem dX6_breaks_59 : decode cX6_breaks 59 = .ok (.ishr, 1) := by decide +kernel
theorem dX6_breaks_60 : decode cX6_breaks 60 = .ok (.iconst 1, 1) := by decide +kernel
theorem dX6_breaks_61 : decode cX6_breaks 61 = .ok (.iand, 1) := by decide +kernel
theorem dX6_breaks_62 : decode cX6_breaks 62 = .ok (.iconst 1, 1) := by decide +kernel
theorem dX6_breaks_63 : decode cX6_breaks 63 = .ok (.if_icmp .ne 7, 3) := by decide +kernel
theorem dX6_breaks_66 : decode cX6_breaks 66 = .ok (.iconst 1, 1) := by decide +kernel
theorem dX6_breaks_67 : decode cX6_breaks 67 = .ok (.goto 4, 3) := by decide +kernel
theorem dX6_breaks_70 : decode cX6_breaks 70 = .ok (.iconst 0, 1) := by decide +kernel
theorem dX6_breaks_71 : decode cX6_breaks 71 = .ok (.aload_n 0, 1) := by decide +kernel
theorem dX6_breaks_72 : decode cX6_breaks 72 = .ok (.getfield 32, 3) := by decide +kernel
theorem dX6_breaks_75 : decode cX6_breaks 75 = .ok (.iload 5, 2) := by decide +kernel
theorem dX6_breaks_77 : decode cX6_breaks 77 = .ok (.baload, 1) := by decide +kernel
theorem dX6_breaks_78 : decode cX6_breaks 78 = .ok (.if_icmp .ne 7, 3) := by decide +kernel
theorem dX6_breaks_81 : decode cX6_breaks 81 = .ok (.iconst 1, 1) := by decide +kernel
theorem dX6_breaks_82 : decode cX6_breaks 82 = .ok (.goto 4, 3) := by decide +kernel
theorem dX6_breaks_85 : decode cX6_breaks 85 = .ok (.iconst 0, 1) := by decide +kernel
theorem dX6_breaks_86 : decode cX6_breaks 86 = .ok (.istore 7, 2) := by decide +kernel
theorem dX6_breaks_88 : decode cX6_breaks 88 = .ok (.iload_n 1, 1) := by decide +kernel
theorem dX6_breaks_89 : decode cX6_breaks 89 = .ok (.iload_n 2, 1) := by decide +kernel
theorem dX6_breaks_90 : decode cX6_breaks 90 = .ok (.ior, 1) := by decide +kernel
theorem dX6_breaks_91 : decode cX6_breaks 91 = .ok (.aload_n 0, 1) := by decide +kernel
theorem dX6_breaks_92 : decode cX6_breaks 92 = .ok (.getfield 29, 3) := by decide +kernel
theorem dX6_breaks_95 : decode cX6_breaks 95 = .ok (.iload 5, 2) := by decide +kernel
theorem dX6_breaks_97 : decode cX6_breaks 97 = .ok (.iaload, 1) := by decide +kernel
theorem dX6_breaks_98 : decode cX6_breaks 98 = .ok (.ishr, 1) := by decide +kernel
theorem dX6_breaks_99 : decode cX6_breaks 99 = .ok (.iconst 1, 1) := by decide +kernel
theorem dX6_breaks_100 : decode cX6_breaks 100 = .ok (.iand, 1) := by decide +kernel
theorem dX6_breaks_101 : decode cX6_breaks 101 = .ok (.iconst 1, 1) := by decide +kernel
theorem dX6_breaks_102 : decode cX6_breaks 102 = .ok (.if_icmp .ne 7, 3) := by decide +kernel
theorem dX6_breaks_105 : decode cX6_breaks 105 = .ok (.iconst 1, 1) := by decide +kernel
theorem dX6_breaks_106 : decode cX6_breaks 106 = .ok (.goto 4, 3) := by decide +kernel
theorem dX6_breaks_109 : decode cX6_breaks 109 = .ok (.iconst 0, 1) := by decide +kernel
theorem dX6_breaks_110 : decode cX6_breaks 110 = .ok (.istore 8, 2) := by decide +kernel
theorem dX6_breaks_112 : decode cX6_breaks 112 = .ok (.iload 4, 2) := by decide +kernel
theorem dX6_breaks_114 : decode cX6_breaks 114 = .ok (.ifCond .ne 18, 3) := by decide +kernel
theorem dX6_breaks_117 : decode cX6_breaks 117 = .ok (.iload 6, 2) := by decide +kernel
theorem dX6_breaks_119 : decode cX6_breaks 119 = .ok (.ifCond .eq 17, 3) := by decide +kernel
theorem dX6_breaks_122 : decode cX6_breaks 122 = .ok (.iload 7, 2) := by decide +kernel
theorem dX6_breaks_124 : decode cX6_breaks 124 = .ok (.ifCond .ne 8, 3) := by decide +kernel
theorem dX6_breaks_127 : decode cX6_breaks 127 = .ok (.iload 8, 2) := by decide +kernel
theorem dX6_breaks_129 : decode cX6_breaks 129 = .ok (.ifCond .eq 7, 3) := by decide +kernel
theorem dX6_breaks_132 : decode cX6_breaks 132 = .ok (.iconst 1, 1) := by decide +kernel
theorem dX6_breaks_133 : decode cX6_breaks 133 = .ok (.goto 4, 3) := by decide +kernel
theorem dX6_breaks_136 : decode cX6_breaks 136 = .ok (.iconst 0, 1) := by decide +kernel
theorem dX6_breaks_137 : decode cX6_breaks 137 = .ok (.istore 4, 2) := by decide +kernel
theorem dX6_breaks_139 : decode cX6_breaks 139 = .ok (.iinc 5 1, 3) := by decide +kernel
theorem dX6_breaks_142 : decode cX6_breaks 142 = .ok (.goto (-136), 3) := by decide +kernel
theorem dX6_breaks_145 : decode cX6_breaks 145 = .ok (.iload 4, 2) := by decide +kernel
theorem dX6_breaks_147 : decode cX6_breaks 147 = .ok (.ireturn, 1) := by decide +kernel
set_option maxRecDepth 20000 in
theorem ggX6_breach_X6_isSound : GoodIn wsX6_breach wsX6_isSound := goodIn_r _ [9, 10, 11, 12, 8, 13, 4, 1, 2, 3, 23, 24, 25, 26, 27, 28, 29, 30, 31, 32, 33, 34, 35] (by decide +kernel) (by decide +kernel)
set_option maxRecDepth 20000 in
theorem gX6_breach_X6_isSound : GoodIn wsX6_breach (wsV RX6 57 RX6 yX6_isSound wsX6_isSound) := goodIn_app (goodIn_of _ (by decide +kernel)) ggX6_breach_X6_isSound
set_option maxRecDepth 20000 in
theorem ggX6_breach_X6_breaks : GoodIn wsX6_breach wsX6_breaks := goodIn_r _ [17, 18, 19, 20, 21, 22, 23, 24, 25, 26, 27, 28, 29, 30, 31, 32, 33, 34, 35] (by decide +kernel) (by decide +kernel)
set_option maxRecDepth 20000 in
theorem gX6_breach_X6_breaks : GoodIn wsX6_breach (wsV RX6 107 RX6 yX6_breaks wsX6_breaks) := goodIn_app (goodIn_of _ (by decide +kernel)) ggX6_breach_X6_breaks
theorem dX6_breach_0 : decode cX6_breach 0 = .ok (.aload_n 0, 1) := by decide +kernel
theorem dX6_breach_1 : decode cX6_breach 1 = .ok (.invokevirtual 57, 3) := by decide +kernel
theorem dX6_breach_4 : decode cX6_breach 4 = .ok (.ifCond .ne 6, 3) := by decide +kernel
theorem dX6_breach_7 : decode cX6_breach 7 = .ok (.bipush (-3), 2) := by decide +kernel
theorem dX6_breach_9 : decode cX6_breach 9 = .ok (.ireturn, 1) := by decide +kernel
theorem dX6_breach_10 : decode cX6_breach 10 = .ok (.iconst 0, 1) := by decide +kernel
theorem dX6_breach_11 : decode cX6_breach 11 = .ok (.istore_n 1, 1) := by decide +kernel
theorem dX6_breach_12 : decode cX6_breach 12 = .ok (.iload_n 1, 1) := by decide +kernel
theorem dX6_breach_13 : decode cX6_breach 13 = .ok (.aload_n 0, 1) := by decide +kernel
theorem dX6_breach_14 : decode cX6_breach 14 = .ok (.getfield 45, 3) := by decide +kernel
theorem dX6_breach_17 : decode cX6_breach 17 = .ok (.if_icmp .ge 36, 3) := by decide +kernel
theorem dX6_breach_20 : decode cX6_breach 20 = .ok (.aload_n 0, 1) := by decide +kernel
theorem dX6_breach_21 : decode cX6_breach 21 = .ok (.aload_n 0, 1) := by decide +kernel
theorem dX6_breach_22 : decode cX6_breach 22 = .ok (.getfield 7, 3) := by decide +kernel
theorem dX6_breach_25 : decode cX6_breach 25 = .ok (.iload_n 1, 1) := by decide +kernel
theorem dX6_breach_26 : decode cX6_breach 26 = .ok (.iaload, 1) := by decide +kernel
theorem dX6_breach_27 : decode cX6_breach 27 = .ok (.aload_n 0, 1) := by decide +kernel
theorem dX6_breach_28 : decode cX6_breach 28 = .ok (.getfield 13, 3) := by decide +kernel
theorem dX6_breach_31 : decode cX6_breach 31 = .ok (.iload_n 1, 1) := by decide +kernel
theorem dX6_breach_32 : decode cX6_breach 32 = .ok (.iaload, 1) := by decide +kernel
theorem dX6_breach_33 : decode cX6_breach 33 = .ok (.aload_n 0, 1) := by decide +kernel
theorem dX6_breach_34 : decode cX6_breach 34 = .ok (.getfield 35, 3) := by decide +kernel
theorem dX6_breach_37 : decode cX6_breach 37 = .ok (.iload_n 1, 1) := by decide +kernel
theorem dX6_breach_38 : decode cX6_breach 38 = .ok (.iaload, 1) := by decide +kernel
theorem dX6_breach_39 : decode cX6_breach 39 = .ok (.invokevirtual 107, 3) := by decide +kernel
theorem dX6_breach_42 : decode cX6_breach 42 = .ok (.ifCond .eq 5, 3) := by decide +kernel
theorem dX6_breach_45 : decode cX6_breach 45 = .ok (.iload_n 1, 1) := by decide +kernel
theorem dX6_breach_46 : decode cX6_breach 46 = .ok (.ireturn, 1) := by decide +kernel
theorem dX6_breach_47 : decode cX6_breach 47 = .ok (.iinc 1 1, 3) := by decide +kernel
theorem dX6_breach_50 : decode cX6_breach 50 = .ok (.goto (-38), 3) := by decide +kernel
theorem dX6_breach_53 : decode cX6_breach 53 = .ok (.iconst (-1), 1) := by decide +kernel
theorem dX6_breach_54 : decode cX6_breach 54 = .ok (.ireturn, 1) := by decide +kernel
set_option maxRecDepth 20000 in
theorem ggX6_mayMove_X6_breaks : GoodIn wsX6_mayMove wsX6_breaks := goodIn_r _ [5, 6, 7, 8, 9, 10, 11, 12, 13, 14, 15, 16, 17, 18, 19, 20, 21, 22, 23] (by decide +kernel) (by decide +kernel)
set_option maxRecDepth 20000 in
theorem gX6_mayMove_X6_breaks : GoodIn wsX6_mayMove (wsV RX6 107 RX6 yX6_breaks wsX6_breaks) := goodIn_app (goodIn_of _ (by decide +kernel)) ggX6_mayMove_X6_breaks
theorem dX6_mayMove_0 : decode cX6_mayMove 0 = .ok (.iload_n 1, 1) := by decide +kernel
theorem dX6_mayMove_1 : decode cX6_mayMove 1 = .ok (.iload_n 2, 1) := by decide +kernel
theorem dX6_mayMove_2 : decode cX6_mayMove 2 = .ok (.ishr, 1) := by decide +kernel
theorem dX6_mayMove_3 : decode cX6_mayMove 3 = .ok (.iconst 1, 1) := by decide +kernel
theorem dX6_mayMove_4 : decode cX6_mayMove 4 = .ok (.iand, 1) := by decide +kernel
theorem dX6_mayMove_5 : decode cX6_mayMove 5 = .ok (.ifCond .ne 7, 3) := by decide +kernel
theorem dX6_mayMove_8 : decode cX6_mayMove 8 = .ok (.iconst 1, 1) := by decide +kernel
theorem dX6_mayMove_9 : decode cX6_mayMove 9 = .ok (.goto 4, 3) := by decide +kernel
theorem dX6_mayMove_12 : decode cX6_mayMove 12 = .ok (.iconst 0, 1) := by decide +kernel
theorem dX6_mayMove_13 : decode cX6_mayMove 13 = .ok (.istore_n 3, 1) := by decide +kernel
theorem dX6_mayMove_14 : decode cX6_mayMove 14 = .ok (.aload_n 0, 1) := by decide +kernel
theorem dX6_mayMove_15 : decode cX6_mayMove 15 = .ok (.iload_n 3, 1) := by decide +kernel
theorem dX6_mayMove_16 : decode cX6_mayMove 16 = .ok (.ifCond .eq 9, 3) := by decide +kernel
theorem dX6_mayMove_19 : decode cX6_mayMove 19 = .ok (.iconst 1, 1) := by decide +kernel
theorem dX6_mayMove_20 : decode cX6_mayMove 20 = .ok (.iload_n 2, 1) := by decide +kernel
theorem dX6_mayMove_21 : decode cX6_mayMove 21 = .ok (.ishl, 1) := by decide +kernel
theorem dX6_mayMove_22 : decode cX6_mayMove 22 = .ok (.goto 4, 3) := by decide +kernel
theorem dX6_mayMove_25 : decode cX6_mayMove 25 = .ok (.iconst 0, 1) := by decide +kernel
theorem dX6_mayMove_26 : decode cX6_mayMove 26 = .ok (.iload_n 3, 1) := by decide +kernel
theorem dX6_mayMove_27 : decode cX6_mayMove 27 = .ok (.ifCond .eq 7, 3) := by decide +kernel
theorem dX6_mayMove_30 : decode cX6_mayMove 30 = .ok (.iconst 0, 1) := by decide +kernel
theorem dX6_mayMove_31 : decode cX6_mayMove 31 = .ok (.goto 6, 3) := by decide +kernel
theorem dX6_mayMove_34 : decode cX6_mayMove 34 = .ok (.iconst 1, 1) := by decide +kernel
theorem dX6_mayMove_35 : decode cX6_mayMove 35 = .ok (.iload_n 2, 1) := by decide +kernel
theorem dX6_mayMove_36 : decode cX6_mayMove 36 = .ok (.ishl, 1) := by decide +kernel
theorem dX6_mayMove_37 : decode cX6_mayMove 37 = .ok (.iload_n 1, 1) := by decide +kernel
theorem dX6_mayMove_38 : decode cX6_mayMove 38 = .ok (.invokevirtual 107, 3) := by decide +kernel
theorem dX6_mayMove_41 : decode cX6_mayMove 41 = .ok (.ifCond .ne 7, 3) := by decide +kernel
theorem dX6_mayMove_44 : decode cX6_mayMove 44 = .ok (.iconst 1, 1) := by decide +kernel
theorem dX6_mayMove_45 : decode cX6_mayMove 45 = .ok (.goto 4, 3) := by decide +kernel
theorem dX6_mayMove_48 : decode cX6_mayMove 48 = .ok (.iconst 0, 1) := by decide +kernel
theorem dX6_mayMove_49 : decode cX6_mayMove 49 = .ok (.ireturn, 1) := by decide +kernel
set_option maxRecDepth 20000 in
theorem ggX6_layWays_X6_mayMove : GoodIn wsX6_layWays wsX6_mayMove := goodIn_r _ [6, 7, 8, 9, 5, 10, 11, 12, 13, 14, 15, 16, 17, 18, 19, 20, 21, 22, 23, 24, 25, 26, 27, 28] (by decide +kernel) (by decide +kernel)
set_option maxRecDepth 20000 in
theorem gX6_layWays_X6_mayMove : GoodIn wsX6_layWays (wsV RX6 110 RX6 yX6_mayMove wsX6_mayMove) := goodIn_app (goodIn_of _ (by decide +kernel)) ggX6_layWays_X6_mayMove
theorem dX6_layWays_0 : decode cX6_layWays 0 = .ok (.iconst 0, 1) := by decide +kernel
theorem dX6_layWays_1 : decode cX6_layWays 1 = .ok (.istore_n 1, 1) := by decide +kernel
theorem dX6_layWays_2 : decode cX6_layWays 2 = .ok (.iload_n 1, 1) := by decide +kernel
theorem dX6_layWays_3 : decode cX6_layWays 3 = .ok (.bipush 63, 2) := by decide +kernel
theorem dX6_layWays_5 : decode cX6_layWays 5 = .ok (.if_icmp .gt 26, 3) := by decide +kernel
theorem dX6_layWays_8 : decode cX6_layWays 8 = .ok (.aload_n 0, 1) := by decide +kernel
theorem dX6_layWays_9 : decode cX6_layWays 9 = .ok (.getfield 38, 3) := by decide +kernel
theorem dX6_layWays_12 : decode cX6_layWays 12 = .ok (.iload_n 1, 1) := by decide +kernel
theorem dX6_layWays_13 : decode cX6_layWays 13 = .ok (.iload_n 1, 1) := by decide +kernel
theorem dX6_layWays_14 : decode cX6_layWays 14 = .ok (.ifCond .ne 7, 3) := by decide +kernel
theorem dX6_layWays_17 : decode cX6_layWays 17 = .ok (.iconst 0, 1) := by decide +kernel
theorem dX6_layWays_18 : decode cX6_layWays 18 = .ok (.goto 6, 3) := by decide +kernel
theorem dX6_layWays_21 : decode cX6_layWays 21 = .ok (.sipush 1000, 3) := by decide +kernel
theorem dX6_layWays_24 : decode cX6_layWays 24 = .ok (.iastore, 1) := by decide +kernel
theorem dX6_layWays_25 : decode cX6_layWays 25 = .ok (.iinc 1 1, 3) := by decide +kernel
theorem dX6_layWays_28 : decode cX6_layWays 28 = .ok (.goto (-26), 3) := by decide +kernel
theorem dX6_layWays_31 : decode cX6_layWays 31 = .ok (.iconst 1, 1) := by decide +kernel
theorem dX6_layWays_32 : decode cX6_layWays 32 = .ok (.istore_n 1, 1) := by decide +kernel
theorem dX6_layWays_33 : decode cX6_layWays 33 = .ok (.iload_n 1, 1) := by decide +kernel
theorem dX6_layWays_34 : decode cX6_layWays 34 = .ok (.ifCond .eq 86, 3) := by decide +kernel
theorem dX6_layWays_37 : decode cX6_layWays 37 = .ok (.iconst 0, 1) := by decide +kernel
theorem dX6_layWays_38 : decode cX6_layWays 38 = .ok (.istore_n 1, 1) := by decide +kernel
theorem dX6_layWays_39 : decode cX6_layWays 39 = .ok (.iconst 0, 1) := by decide +kernel
theorem dX6_layWays_40 : decode cX6_layWays 40 = .ok (.istore_n 2, 1) := by decide +kernel
theorem dX6_layWays_41 : decode cX6_layWays 41 = .ok (.iload_n 2, 1) := by decide +kernel
theorem dX6_layWays_42 : decode cX6_layWays 42 = .ok (.bipush 63, 2) := by decide +kernel
theorem dX6_layWays_44 : decode cX6_layWays 44 = .ok (.if_icmp .gt 73, 3) := by decide +kernel
theorem dX6_layWays_47 : decode cX6_layWays 47 = .ok (.iconst 0, 1) := by decide +kernel
theorem dX6_layWays_48 : decode cX6_layWays 48 = .ok (.istore_n 3, 1) := by decide +kernel
theorem dX6_layWays_49 : decode cX6_layWays 49 = .ok (.iload_n 3, 1) := by decide +kernel
theorem dX6_layWays_50 : decode cX6_layWays 50 = .ok (.bipush 6, 2) := by decide +kernel
theorem dX6_layWays_52 : decode cX6_layWays 52 = .ok (.if_icmp .ge 59, 3) := by decide +kernel
theorem dX6_layWays_55 : decode cX6_layWays 55 = .ok (.aload_n 0, 1) := by decide +kernel
theorem dX6_layWays_56 : decode cX6_layWays 56 = .ok (.getfield 38, 3) := by decide +kernel
theorem dX6_layWays_59 : decode cX6_layWays 59 = .ok (.iload_n 2, 1) := by decide +kernel
theorem dX6_layWays_60 : decode cX6_layWays 60 = .ok (.iconst 1, 1) := by decide +kernel
theorem dX6_layWays_61 : decode cX6_layWays 61 = .ok (.iload_n 3, 1) := by decide +kernel
theorem dX6_layWays_62 : decode cX6_layWays 62 = .ok (.ishl, 1) := by decide +kernel
theorem dX6_layWays_63 : decode cX6_layWays 63 = .ok (.ixor, 1) := by decide +kernel
theorem dX6_layWays_64 : decode cX6_layWays 64 = .ok (.iaload, 1) := by decide +kernel
theorem dX6_layWays_65 : decode cX6_layWays 65 = .ok (.iconst 1, 1) := by decide +kernel
theorem dX6_layWays_66 : decode cX6_layWays 66 = .ok (.iadd, 1) := by decide +kernel
theorem dX6_layWays_67 : decode cX6_layWays 67 = .ok (.aload_n 0, 1) := by decide +kernel
theorem dX6_layWays_68 : decode cX6_layWays 68 = .ok (.getfield 38, 3) := by decide +kernel
theorem dX6_layWays_71 : decode cX6_layWays 71 = .ok (.iload_n 2, 1) := by decide +kernel
theorem dX6_layWays_72 : decode cX6_layWays 72 = .ok (.iaload, 1) := by decide +kernel
theorem dX6_layWays_73 : decode cX6_layWays 73 = .ok (.if_icmp .ge 32, 3) := by decide +kernel
theorem dX6_layWays_76 : decode cX6_layWays 76 = .ok (.aload_n 0, 1) := by decide +kernel
theorem dX6_layWays_77 : decode cX6_layWays 77 = .ok (.iload_n 2, 1) := by decide +kernel
theorem dX6_layWays_78 : decode cX6_layWays 78 = .ok (.iload_n 3, 1) := by decide +kernel
theorem dX6_layWays_79 : decode cX6_layWays 79 = .ok (.invokevirtual 110, 3) := by decide +kernel
theorem dX6_layWays_82 : decode cX6_layWays 82 = .ok (.ifCond .eq 23, 3) := by decide +kernel
theorem dX6_layWays_85 : decode cX6_layWays 85 = .ok (.aload_n 0, 1) := by decide +kernel
theorem dX6_layWays_86 : decode cX6_layWays 86 = .ok (.getfield 38, 3) := by decide +kernel
theorem dX6_layWays_89 : decode cX6_layWays 89 = .ok (.iload_n 2, 1) := by decide +kernel
theorem dX6_layWays_90 : decode cX6_layWays 90 = .ok (.aload_n 0, 1) := by decide +kernel
theorem dX6_layWays_91 : decode cX6_layWays 91 = .ok (.getfield 38, 3) := by decide +kernel
theorem dX6_layWays_94 : decode cX6_layWays 94 = .ok (.iload_n 2, 1) := by decide +kernel
theorem dX6_layWays_95 : decode cX6_layWays 95 = .ok (.iconst 1, 1) := by decide +kernel
theorem dX6_layWays_96 : decode cX6_layWays 96 = .ok (.iload_n 3, 1) := by decide +kernel
theorem dX6_layWays_97 : decode cX6_layWays 97 = .ok (.ishl, 1) := by decide +kernel
theorem dX6_layWays_98 : decode cX6_layWays 98 = .ok (.ixor, 1) := by decide +kernel
theorem dX6_layWays_99 : decode cX6_layWays 99 = .ok (.iaload, 1) := by decide +kernel
theorem dX6_layWays_100 : decode cX6_layWays 100 = .ok (.iconst 1, 1) := by decide +kernel
theorem dX6_layWays_101 : decode cX6_layWays 101 = .ok (.iadd, 1) := by decide +kernel
theorem dX6_layWays_102 : decode cX6_layWays 102 = .ok (.iastore, 1) := by decide +kernel
theorem dX6_layWays_103 : decode cX6_layWays 103 = .ok (.iconst 1, 1) := by decide +kernel
theorem dX6_layWays_104 : decode cX6_layWays 104 = .ok (.istore_n 1, 1) := by decide +kernel
theorem dX6_layWays_105 : decode cX6_layWays 105 = .ok (.iinc 3 1, 3) := by decide +kernel
theorem dX6_layWays_108 : decode cX6_layWays 108 = .ok (.goto (-59), 3) := by decide +kernel
theorem dX6_layWays_111 : decode cX6_layWays 111 = .ok (.iinc 2 1, 3) := by decide +kernel
theorem dX6_layWays_114 : decode cX6_layWays 114 = .ok (.goto (-73), 3) := by decide +kernel
theorem dX6_layWays_117 : decode cX6_layWays 117 = .ok (.goto (-84), 3) := by decide +kernel
theorem dX6_layWays_120 : decode cX6_layWays 120 = .ok (.return_, 1) := by decide +kernel
set_option maxRecDepth 20000 in
theorem ggX6_home_X6_in : GoodIn wsX6_home wsX6_in := goodIn_r _ [5] (by decide +kernel) (by decide +kernel)
set_option maxRecDepth 20000 in
theorem gX6_home_X6_in : GoodIn wsX6_home (va_wsS RX6 41 yX6_in wsX6_in) := goodIn_app (goodIn_of _ (by decide +kernel)) ggX6_home_X6_in
set_option maxRecDepth 20000 in
theorem ggX6_home_X6_layWays : GoodIn wsX6_home wsX6_layWays := goodIn_r _ [9, 1, 10, 11, 12, 4, 13, 14, 15, 16, 17, 18, 19, 20, 21, 22, 23, 24, 25, 26, 27, 28, 29, 30, 31, 32, 33, 34, 35] (by decide +kernel) (by decide +kernel)
set_option maxRecDepth 20000 in
theorem gX6_home_X6_layWays : GoodIn wsX6_home (wsV RX6 113 RX6 yX6_layWays wsX6_layWays) := goodIn_app (goodIn_of _ (by decide +kernel)) ggX6_home_X6_layWays
theorem dX6_home_0 : decode cX6_home 0 = .ok (.iload_n 1, 1) := by decide +kernel
theorem dX6_home_1 : decode cX6_home 1 = .ok (.iconst 0, 1) := by decide +kernel
theorem dX6_home_2 : decode cX6_home 2 = .ok (.bipush 63, 2) := by decide +kernel
theorem dX6_home_4 : decode cX6_home 4 = .ok (.invokestatic 41, 3) := by decide +kernel
theorem dX6_home_7 : decode cX6_home 7 = .ok (.ifCond .ne 6, 3) := by decide +kernel
theorem dX6_home_10 : decode cX6_home 10 = .ok (.bipush (-2), 2) := by decide +kernel
theorem dX6_home_12 : decode cX6_home 12 = .ok (.ireturn, 1) := by decide +kernel
theorem dX6_home_13 : decode cX6_home 13 = .ok (.aload_n 0, 1) := by decide +kernel
theorem dX6_home_14 : decode cX6_home 14 = .ok (.invokevirtual 113, 3) := by decide +kernel
theorem dX6_home_17 : decode cX6_home 17 = .ok (.aload_n 0, 1) := by decide +kernel
theorem dX6_home_18 : decode cX6_home 18 = .ok (.getfield 38, 3) := by decide +kernel
theorem dX6_home_21 : decode cX6_home 21 = .ok (.iload_n 1, 1) := by decide +kernel
theorem dX6_home_22 : decode cX6_home 22 = .ok (.iaload, 1) := by decide +kernel
theorem dX6_home_23 : decode cX6_home 23 = .ok (.sipush 1000, 3) := by decide +kernel
theorem dX6_home_26 : decode cX6_home 26 = .ok (.if_icmp .ne 7, 3) := by decide +kernel
theorem dX6_home_29 : decode cX6_home 29 = .ok (.iconst (-1), 1) := by decide +kernel
theorem dX6_home_30 : decode cX6_home 30 = .ok (.goto 9, 3) := by decide +kernel
theorem dX6_home_33 : decode cX6_home 33 = .ok (.aload_n 0, 1) := by decide +kernel
theorem dX6_home_34 : decode cX6_home 34 = .ok (.getfield 38, 3) := by decide +kernel
theorem dX6_home_37 : decode cX6_home 37 = .ok (.iload_n 1, 1) := by decide +kernel
theorem dX6_home_38 : decode cX6_home 38 = .ok (.iaload, 1) := by decide +kernel
theorem dX6_home_39 : decode cX6_home 39 = .ok (.ireturn, 1) := by decide +kernel
set_option maxRecDepth 20000 in
theorem ggX6_way_X6_in : GoodIn wsX6_way wsX6_in := goodIn_r _ [5] (by decide +kernel) (by decide +kernel)
set_option maxRecDepth 20000 in
theorem gX6_way_X6_in : GoodIn wsX6_way (va_wsS RX6 41 yX6_in wsX6_in) := goodIn_app (goodIn_of _ (by decide +kernel)) ggX6_way_X6_in
set_option maxRecDepth 20000 in
theorem ggX6_way_X6_layWays : GoodIn wsX6_way wsX6_layWays := goodIn_r _ [9, 1, 10, 11, 12, 4, 13, 14, 15, 16, 17, 18, 19, 20, 21, 22, 23, 24, 25, 26, 27, 28, 29, 30, 31, 32, 33, 34, 35] (by decide +kernel) (by decide +kernel)
set_option maxRecDepth 20000 in
theorem gX6_way_X6_layWays : GoodIn wsX6_way (wsV RX6 113 RX6 yX6_layWays wsX6_layWays) := goodIn_app (goodIn_of _ (by decide +kernel)) ggX6_way_X6_layWays
set_option maxRecDepth 20000 in
theorem ggX6_way_X6_mayMove : GoodIn wsX6_way wsX6_mayMove := goodIn_r _ [13, 14, 15, 16, 4, 17, 18, 19, 20, 21, 22, 23, 24, 25, 26, 27, 28, 29, 30, 31, 32, 33, 34, 35] (by decide +kernel) (by decide +kernel)
set_option maxRecDepth 20000 in
theorem gX6_way_X6_mayMove : GoodIn wsX6_way (wsV RX6 110 RX6 yX6_mayMove wsX6_mayMove) := goodIn_app (goodIn_of _ (by decide +kernel)) ggX6_way_X6_mayMove
theorem dX6_way_0 : decode cX6_way 0 = .ok (.iload_n 1, 1) := by decide +kernel
theorem dX6_way_1 : decode cX6_way 1 = .ok (.iconst 0, 1) := by decide +kernel
theorem dX6_way_2 : decode cX6_way 2 = .ok (.bipush 63, 2) := by decide +kernel
theorem dX6_way_4 : decode cX6_way 4 = .ok (.invokestatic 41, 3) := by decide +kernel
theorem dX6_way_7 : decode cX6_way 7 = .ok (.ifCond .eq 7, 3) := by decide +kernel
theorem dX6_way_10 : decode cX6_way 10 = .ok (.iload_n 2, 1) := by decide +kernel
theorem dX6_way_11 : decode cX6_way 11 = .ok (.ifCond .ge 6, 3) := by decide +kernel
theorem dX6_way_14 : decode cX6_way 14 = .ok (.bipush (-2), 2) := by decide +kernel
theorem dX6_way_16 : decode cX6_way 16 = .ok (.ireturn, 1) := by decide +kernel
theorem dX6_way_17 : decode cX6_way 17 = .ok (.aload_n 0, 1) := by decide +kernel
theorem dX6_way_18 : decode cX6_way 18 = .ok (.invokevirtual 113, 3) := by decide +kernel
theorem dX6_way_21 : decode cX6_way 21 = .ok (.iload_n 1, 1) := by decide +kernel
theorem dX6_way_22 : decode cX6_way 22 = .ok (.istore_n 3, 1) := by decide +kernel
theorem dX6_way_23 : decode cX6_way 23 = .ok (.iconst (-1), 1) := by decide +kernel
theorem dX6_way_24 : decode cX6_way 24 = .ok (.istore 4, 2) := by decide +kernel
theorem dX6_way_26 : decode cX6_way 26 = .ok (.iconst 0, 1) := by decide +kernel
theorem dX6_way_27 : decode cX6_way 27 = .ok (.istore 5, 2) := by decide +kernel
theorem dX6_way_29 : decode cX6_way 29 = .ok (.iload 5, 2) := by decide +kernel
theorem dX6_way_31 : decode cX6_way 31 = .ok (.iload_n 2, 1) := by decide +kernel
theorem dX6_way_32 : decode cX6_way 32 = .ok (.if_icmp .gt 100, 3) := by decide +kernel
theorem dX6_way_35 : decode cX6_way 35 = .ok (.aload_n 0, 1) := by decide +kernel
theorem dX6_way_36 : decode cX6_way 36 = .ok (.getfield 38, 3) := by decide +kernel
theorem dX6_way_39 : decode cX6_way 39 = .ok (.iload_n 3, 1) := by decide +kernel
theorem dX6_way_40 : decode cX6_way 40 = .ok (.iaload, 1) := by decide +kernel
theorem dX6_way_41 : decode cX6_way 41 = .ok (.ifCond .eq 15, 3) := by decide +kernel
theorem dX6_way_44 : decode cX6_way 44 = .ok (.aload_n 0, 1) := by decide +kernel
theorem dX6_way_45 : decode cX6_way 45 = .ok (.getfield 38, 3) := by decide +kernel
theorem dX6_way_48 : decode cX6_way 48 = .ok (.iload_n 3, 1) := by decide +kernel
theorem dX6_way_49 : decode cX6_way 49 = .ok (.iaload, 1) := by decide +kernel
theorem dX6_way_50 : decode cX6_way 50 = .ok (.sipush 1000, 3) := by decide +kernel
theorem dX6_way_53 : decode cX6_way 53 = .ok (.if_icmp .ne 5, 3) := by decide +kernel
theorem dX6_way_56 : decode cX6_way 56 = .ok (.iconst (-1), 1) := by decide +kernel
theorem dX6_way_57 : decode cX6_way 57 = .ok (.ireturn, 1) := by decide +kernel
theorem dX6_way_58 : decode cX6_way 58 = .ok (.iconst 0, 1) := by decide +kernel
theorem dX6_way_59 : decode cX6_way 59 = .ok (.istore 6, 2) := by decide +kernel
theorem dX6_way_61 : decode cX6_way 61 = .ok (.aload_n 0, 1) := by decide +kernel
theorem dX6_way_62 : decode cX6_way 62 = .ok (.getfield 38, 3) := by decide +kernel
theorem dX6_way_65 : decode cX6_way 65 = .ok (.iload_n 3, 1) := by decide +kernel
theorem dX6_way_66 : decode cX6_way 66 = .ok (.iconst 1, 1) := by decide +kernel
theorem dX6_way_67 : decode cX6_way 67 = .ok (.iload 6, 2) := by decide +kernel
theorem dX6_way_69 : decode cX6_way 69 = .ok (.ishl, 1) := by decide +kernel
theorem dX6_way_70 : decode cX6_way 70 = .ok (.ixor, 1) := by decide +kernel
theorem dX6_way_71 : decode cX6_way 71 = .ok (.iaload, 1) := by decide +kernel
theorem dX6_way_72 : decode cX6_way 72 = .ok (.iconst 1, 1) := by decide +kernel
theorem dX6_way_73 : decode cX6_way 73 = .ok (.iadd, 1) := by decide +kernel
theorem dX6_way_74 : decode cX6_way 74 = .ok (.aload_n 0, 1) := by decide +kernel
theorem dX6_way_75 : decode cX6_way 75 = .ok (.getfield 38, 3) := by decide +kernel
theorem dX6_way_78 : decode cX6_way 78 = .ok (.iload_n 3, 1) := by decide +kernel
theorem dX6_way_79 : decode cX6_way 79 = .ok (.iaload, 1) := by decide +kernel
theorem dX6_way_80 : decode cX6_way 80 = .ok (.if_icmp .ne 13, 3) := by decide +kernel
theorem dX6_way_83 : decode cX6_way 83 = .ok (.aload_n 0, 1) := by decide +kernel
theorem dX6_way_84 : decode cX6_way 84 = .ok (.iload_n 3, 1) := by decide +kernel
theorem dX6_way_85 : decode cX6_way 85 = .ok (.iload 6, 2) := by decide +kernel
theorem dX6_way_87 : decode cX6_way 87 = .ok (.invokevirtual 110, 3) := by decide +kernel
theorem dX6_way_90 : decode cX6_way 90 = .ok (.ifCond .ne 9, 3) := by decide +kernel
theorem dX6_way_93 : decode cX6_way 93 = .ok (.iinc 6 1, 3) := by decide +kernel
theorem dX6_way_96 : decode cX6_way 96 = .ok (.goto (-35), 3) := by decide +kernel
theorem dX6_way_99 : decode cX6_way 99 = .ok (.iload 6, 2) := by decide +kernel
theorem dX6_way_101 : decode cX6_way 101 = .ok (.iload_n 3, 1) := by decide +kernel
theorem dX6_way_102 : decode cX6_way 102 = .ok (.iload 6, 2) := by decide +kernel
theorem dX6_way_104 : decode cX6_way 104 = .ok (.ishr, 1) := by decide +kernel
theorem dX6_way_105 : decode cX6_way 105 = .ok (.iconst 1, 1) := by decide +kernel
theorem dX6_way_106 : decode cX6_way 106 = .ok (.iand, 1) := by decide +kernel
theorem dX6_way_107 : decode cX6_way 107 = .ok (.ifCond .ne 8, 3) := by decide +kernel
theorem dX6_way_110 : decode cX6_way 110 = .ok (.bipush 10, 2) := by decide +kernel
theorem dX6_way_112 : decode cX6_way 112 = .ok (.goto 4, 3) := by decide +kernel
theorem dX6_way_115 : decode cX6_way 115 = .ok (.iconst 0, 1) := by decide +kernel
theorem dX6_way_116 : decode cX6_way 116 = .ok (.iadd, 1) := by decide +kernel
theorem dX6_way_117 : decode cX6_way 117 = .ok (.istore 4, 2) := by decide +kernel
theorem dX6_way_119 : decode cX6_way 119 = .ok (.iload_n 3, 1) := by decide +kernel
theorem dX6_way_120 : decode cX6_way 120 = .ok (.iconst 1, 1) := by decide +kernel
theorem dX6_way_121 : decode cX6_way 121 = .ok (.iload 6, 2) := by decide +kernel
theorem dX6_way_123 : decode cX6_way 123 = .ok (.ishl, 1) := by decide +kernel
theorem dX6_way_124 : decode cX6_way 124 = .ok (.ixor, 1) := by decide +kernel
theorem dX6_way_125 : decode cX6_way 125 = .ok (.istore_n 3, 1) := by decide +kernel
theorem dX6_way_126 : decode cX6_way 126 = .ok (.iinc 5 1, 3) := by decide +kernel
theorem dX6_way_129 : decode cX6_way 129 = .ok (.goto (-100), 3) := by decide +kernel
theorem dX6_way_132 : decode cX6_way 132 = .ok (.iload 4, 2) := by decide +kernel
theorem dX6_way_134 : decode cX6_way 134 = .ok (.ireturn, 1) := by decide +kernel
set_option maxRecDepth 20000 in
theorem ggX6_has_X6_ahead : GoodIn wsX6_has wsX6_ahead := goodIn_r _ [7, 8, 9, 10, 11, 12, 13, 14, 15, 16, 17, 18, 19, 20, 21] (by decide +kernel) (by decide +kernel)
set_option maxRecDepth 20000 in
theorem gX6_has_X6_ahead : GoodIn wsX6_has (wsV RX6 61 RX6 yX6_ahead wsX6_ahead) := goodIn_app (goodIn_of _ (by decide +kernel)) ggX6_has_X6_ahead
theorem dX6_has_0 : decode cX6_has 0 = .ok (.aload_n 0, 1) := by decide +kernel
theorem dX6_has_1 : decode cX6_has 1 = .ok (.iload_n 1, 1) := by decide +kernel
theorem dX6_has_2 : decode cX6_has 2 = .ok (.invokevirtual 61, 3) := by decide +kernel
theorem dX6_has_5 : decode cX6_has 5 = .ok (.istore_n 3, 1) := by decide +kernel
theorem dX6_has_6 : decode cX6_has 6 = .ok (.iload_n 2, 1) := by decide +kernel
theorem dX6_has_7 : decode cX6_has 7 = .ok (.bipush 6, 2) := by decide +kernel
theorem dX6_has_9 : decode cX6_has 9 = .ok (.if_icmp .ge 12, 3) := by decide +kernel
theorem dX6_has_12 : decode cX6_has 12 = .ok (.aload_n 0, 1) := by decide +kernel
theorem dX6_has_13 : decode cX6_has 13 = .ok (.getfield 13, 3) := by decide +kernel
theorem dX6_has_16 : decode cX6_has 16 = .ok (.iload_n 3, 1) := by decide +kernel
theorem dX6_has_17 : decode cX6_has 17 = .ok (.iaload, 1) := by decide +kernel
theorem dX6_has_18 : decode cX6_has 18 = .ok (.goto 9, 3) := by decide +kernel
theorem dX6_has_21 : decode cX6_has 21 = .ok (.aload_n 0, 1) := by decide +kernel
theorem dX6_has_22 : decode cX6_has 22 = .ok (.getfield 7, 3) := by decide +kernel
theorem dX6_has_25 : decode cX6_has 25 = .ok (.iload_n 3, 1) := by decide +kernel
theorem dX6_has_26 : decode cX6_has 26 = .ok (.iaload, 1) := by decide +kernel
theorem dX6_has_27 : decode cX6_has 27 = .ok (.iload_n 2, 1) := by decide +kernel
theorem dX6_has_28 : decode cX6_has 28 = .ok (.bipush 6, 2) := by decide +kernel
theorem dX6_has_30 : decode cX6_has 30 = .ok (.irem, 1) := by decide +kernel
theorem dX6_has_31 : decode cX6_has 31 = .ok (.ishr, 1) := by decide +kernel
theorem dX6_has_32 : decode cX6_has 32 = .ok (.iconst 1, 1) := by decide +kernel
theorem dX6_has_33 : decode cX6_has 33 = .ok (.iand, 1) := by decide +kernel
theorem dX6_has_34 : decode cX6_has 34 = .ok (.iconst 1, 1) := by decide +kernel
theorem dX6_has_35 : decode cX6_has 35 = .ok (.if_icmp .ne 7, 3) := by decide +kernel
theorem dX6_has_38 : decode cX6_has 38 = .ok (.iconst 1, 1) := by decide +kernel
theorem dX6_has_39 : decode cX6_has 39 = .ok (.goto 4, 3) := by decide +kernel
theorem dX6_has_42 : decode cX6_has 42 = .ok (.iconst 0, 1) := by decide +kernel
theorem dX6_has_43 : decode cX6_has 43 = .ok (.ireturn, 1) := by decide +kernel
set_option maxRecDepth 20000 in
theorem ggX6_stopOf_X6_has : GoodIn wsX6_stopOf wsX6_has := goodIn_r _ [6, 7, 8, 9, 10, 11, 5, 12, 1, 13, 14, 15, 16, 17, 18, 19, 20, 21, 22, 23, 24, 25] (by decide +kernel) (by decide +kernel)
set_option maxRecDepth 20000 in
theorem gX6_stopOf_X6_has : GoodIn wsX6_stopOf (wsV RX6 116 RX6 yX6_has wsX6_has) := goodIn_app (goodIn_of _ (by decide +kernel)) ggX6_stopOf_X6_has
theorem dX6_stopOf_0 : decode cX6_stopOf 0 = .ok (.iconst 0, 1) := by decide +kernel
theorem dX6_stopOf_1 : decode cX6_stopOf 1 = .ok (.istore_n 2, 1) := by decide +kernel
theorem dX6_stopOf_2 : decode cX6_stopOf 2 = .ok (.iload_n 2, 1) := by decide +kernel
end
section
theorem dX6_stopOf_3 : decode cX6_stopOf 3 = .ok (.aload_n 0, 1) := by decide +kernel
theorem dX6_stopOf_4 : decode cX6_stopOf 4 = .ok (.getfield 45, 3) := by decide +kernel
theorem dX6_stopOf_7 : decode cX6_stopOf 7 = .ok (.if_icmp .ge 20, 3) := by decide +kernel
theorem dX6_stopOf_10 : decode cX6_stopOf 10 = .ok (.aload_n 0, 1) := by decide +kernel
theorem dX6_stopOf_11 : decode cX6_stopOf 11 = .ok (.iload_n 2, 1) := by decide +kernel
theorem dX6_stopOf_12 : decode cX6_stopOf 12 = .ok (.iload_n 1, 1) := by decide +kernel
theorem dX6_stopOf_13 : decode cX6_stopOf 13 = .ok (.invokevirtual 116, 3) := by decide +kernel
theorem dX6_stopOf_16 : decode cX6_stopOf 16 = .ok (.ifCond .eq 5, 3) := by decide +kernel
theorem dX6_stopOf_19 : decode cX6_stopOf 19 = .ok (.iload_n 2, 1) := by decide +kernel
theorem dX6_stopOf_20 : decode cX6_stopOf 20 = .ok (.ireturn, 1) := by decide +kernel
theorem dX6_stopOf_21 : decode cX6_stopOf 21 = .ok (.iinc 2 1, 3) := by decide +kernel
theorem dX6_stopOf_24 : decode cX6_stopOf 24 = .ok (.goto (-22), 3) := by decide +kernel
theorem dX6_stopOf_27 : decode cX6_stopOf 27 = .ok (.iconst (-1), 1) := by decide +kernel
theorem dX6_stopOf_28 : decode cX6_stopOf 28 = .ok (.ireturn, 1) := by decide +kernel
set_option maxRecDepth 20000 in
theorem ggX6_stops_X6_in : GoodIn wsX6_stops wsX6_in := goodIn_r _ [4] (by decide +kernel) (by decide +kernel)
set_option maxRecDepth 20000 in
theorem gX6_stops_X6_in : GoodIn wsX6_stops (va_wsS RX6 41 yX6_in wsX6_in) := goodIn_app (goodIn_of _ (by decide +kernel)) ggX6_stops_X6_in
set_option maxRecDepth 20000 in
theorem ggX6_stops_X6_isSound : GoodIn wsX6_stops wsX6_isSound := goodIn_r _ [8, 9, 10, 11, 3, 12, 13, 14, 15, 16, 29, 30, 31, 32, 33, 34, 35, 36, 37, 38, 39, 40, 41] (by decide +kernel) (by decide +kernel)
set_option maxRecDepth 20000 in
theorem gX6_stops_X6_isSound : GoodIn wsX6_stops (wsV RX6 57 RX6 yX6_isSound wsX6_isSound) := goodIn_app (goodIn_of _ (by decide +kernel)) ggX6_stops_X6_isSound
set_option maxRecDepth 20000 in
theorem ggX6_stops_X6_stopOf : GoodIn wsX6_stops wsX6_stopOf := goodIn_r _ [20, 14, 21, 22, 23, 3, 24, 16, 15, 25, 26, 27, 28, 29, 30, 31, 32, 33, 34, 35, 36, 37, 38, 39, 40, 41] (by decide +kernel) (by decide +kernel)
set_option maxRecDepth 20000 in
theorem gX6_stops_X6_stopOf : GoodIn wsX6_stops (wsV RX6 119 RX6 yX6_stopOf wsX6_stopOf) := goodIn_app (goodIn_of _ (by decide +kernel)) ggX6_stops_X6_stopOf
theorem dX6_stops_0 : decode cX6_stops 0 = .ok (.iload_n 1, 1) := by decide +kernel
theorem dX6_stops_1 : decode cX6_stops 1 = .ok (.iconst 0, 1) := by decide +kernel
theorem dX6_stops_2 : decode cX6_stops 2 = .ok (.bipush 11, 2) := by decide +kernel
theorem dX6_stops_4 : decode cX6_stops 4 = .ok (.invokestatic 41, 3) := by decide +kernel
theorem dX6_stops_7 : decode cX6_stops 7 = .ok (.ifCond .ne 6, 3) := by decide +kernel
theorem dX6_stops_10 : decode cX6_stops 10 = .ok (.bipush (-2), 2) := by decide +kernel
theorem dX6_stops_12 : decode cX6_stops 12 = .ok (.ireturn, 1) := by decide +kernel
theorem dX6_stops_13 : decode cX6_stops 13 = .ok (.aload_n 0, 1) := by decide +kernel
theorem dX6_stops_14 : decode cX6_stops 14 = .ok (.invokevirtual 57, 3) := by decide +kernel
theorem dX6_stops_17 : decode cX6_stops 17 = .ok (.ifCond .eq 11, 3) := by decide +kernel
theorem dX6_stops_20 : decode cX6_stops 20 = .ok (.aload_n 0, 1) := by decide +kernel
theorem dX6_stops_21 : decode cX6_stops 21 = .ok (.iload_n 1, 1) := by decide +kernel
theorem dX6_stops_22 : decode cX6_stops 22 = .ok (.invokevirtual 119, 3) := by decide +kernel
theorem dX6_stops_25 : decode cX6_stops 25 = .ok (.goto 5, 3) := by decide +kernel
theorem dX6_stops_28 : decode cX6_stops 28 = .ok (.bipush (-3), 2) := by decide +kernel
theorem dX6_stops_30 : decode cX6_stops 30 = .ok (.ireturn, 1) := by decide +kernel
set_option maxRecDepth 20000 in
theorem ggX6_explains_X6_isStep : GoodIn wsX6_explains wsX6_isStep := goodIn_r _ [5, 6, 7, 8, 4, 9, 33, 34, 35, 36, 37, 38, 39, 40, 41, 42, 43, 44, 45] (by decide +kernel) (by decide +kernel)
set_option maxRecDepth 20000 in
theorem gX6_explains_X6_isStep : GoodIn wsX6_explains (wsV RX6 53 RX6 yX6_isStep wsX6_isStep) := goodIn_app (goodIn_of _ (by decide +kernel)) ggX6_explains_X6_isStep
set_option maxRecDepth 20000 in
theorem ggX6_explains_X6_isSound : GoodIn wsX6_explains wsX6_isSound := goodIn_r _ [13, 14, 15, 16, 4, 17, 18, 6, 19, 20, 33, 34, 35, 36, 37, 38, 39, 40, 41, 42, 43, 44, 45] (by decide +kernel) (by decide +kernel)
set_option maxRecDepth 20000 in
theorem gX6_explains_X6_isSound : GoodIn wsX6_explains (wsV RX6 57 RX6 yX6_isSound wsX6_isSound) := goodIn_app (goodIn_of _ (by decide +kernel)) ggX6_explains_X6_isSound
set_option maxRecDepth 20000 in
theorem ggX6_explains_X6_stopOf : GoodIn wsX6_explains wsX6_stopOf := goodIn_r _ [24, 6, 25, 26, 27, 4, 28, 20, 19, 29, 30, 31, 32, 33, 34, 35, 36, 37, 38, 39, 40, 41, 42, 43, 44, 45] (by decide +kernel) (by decide +kernel)
set_option maxRecDepth 20000 in
theorem gX6_explains_X6_stopOf : GoodIn wsX6_explains (wsV RX6 119 RX6 yX6_stopOf wsX6_stopOf) := goodIn_app (goodIn_of _ (by decide +kernel)) ggX6_explains_X6_stopOf
theorem dX6_explains_0 : decode cX6_explains 0 = .ok (.aload_n 0, 1) := by decide +kernel
theorem dX6_explains_1 : decode cX6_explains 1 = .ok (.iload_n 1, 1) := by decide +kernel
theorem dX6_explains_2 : decode cX6_explains 2 = .ok (.invokevirtual 53, 3) := by decide +kernel
theorem dX6_explains_5 : decode cX6_explains 5 = .ok (.ifCond .ne 6, 3) := by decide +kernel
theorem dX6_explains_8 : decode cX6_explains 8 = .ok (.bipush (-2), 2) := by decide +kernel
theorem dX6_explains_10 : decode cX6_explains 10 = .ok (.ireturn, 1) := by decide +kernel
theorem dX6_explains_11 : decode cX6_explains 11 = .ok (.aload_n 0, 1) := by decide +kernel
theorem dX6_explains_12 : decode cX6_explains 12 = .ok (.invokevirtual 57, 3) := by decide +kernel
theorem dX6_explains_15 : decode cX6_explains 15 = .ok (.ifCond .ne 6, 3) := by decide +kernel
theorem dX6_explains_18 : decode cX6_explains 18 = .ok (.bipush (-3), 2) := by decide +kernel
theorem dX6_explains_20 : decode cX6_explains 20 = .ok (.ireturn, 1) := by decide +kernel
theorem dX6_explains_21 : decode cX6_explains 21 = .ok (.iconst 0, 1) := by decide +kernel
theorem dX6_explains_22 : decode cX6_explains 22 = .ok (.istore_n 2, 1) := by decide +kernel
theorem dX6_explains_23 : decode cX6_explains 23 = .ok (.iconst 0, 1) := by decide +kernel
theorem dX6_explains_24 : decode cX6_explains 24 = .ok (.istore_n 3, 1) := by decide +kernel
theorem dX6_explains_25 : decode cX6_explains 25 = .ok (.iload_n 3, 1) := by decide +kernel
theorem dX6_explains_26 : decode cX6_explains 26 = .ok (.bipush 12, 2) := by decide +kernel
theorem dX6_explains_28 : decode cX6_explains 28 = .ok (.if_icmp .ge 28, 3) := by decide +kernel
theorem dX6_explains_31 : decode cX6_explains 31 = .ok (.iload_n 2, 1) := by decide +kernel
theorem dX6_explains_32 : decode cX6_explains 32 = .ok (.aload_n 0, 1) := by decide +kernel
theorem dX6_explains_33 : decode cX6_explains 33 = .ok (.iload_n 3, 1) := by decide +kernel
theorem dX6_explains_34 : decode cX6_explains 34 = .ok (.invokevirtual 119, 3) := by decide +kernel
theorem dX6_explains_37 : decode cX6_explains 37 = .ok (.iload_n 1, 1) := by decide +kernel
theorem dX6_explains_38 : decode cX6_explains 38 = .ok (.if_icmp .ne 9, 3) := by decide +kernel
theorem dX6_explains_41 : decode cX6_explains 41 = .ok (.iconst 1, 1) := by decide +kernel
theorem dX6_explains_42 : decode cX6_explains 42 = .ok (.iload_n 3, 1) := by decide +kernel
theorem dX6_explains_43 : decode cX6_explains 43 = .ok (.ishl, 1) := by decide +kernel
theorem dX6_explains_44 : decode cX6_explains 44 = .ok (.goto 4, 3) := by decide +kernel
theorem dX6_explains_47 : decode cX6_explains 47 = .ok (.iconst 0, 1) := by decide +kernel
theorem dX6_explains_48 : decode cX6_explains 48 = .ok (.ior, 1) := by decide +kernel
theorem dX6_explains_49 : decode cX6_explains 49 = .ok (.istore_n 2, 1) := by decide +kernel
theorem dX6_explains_50 : decode cX6_explains 50 = .ok (.iinc 3 1, 3) := by decide +kernel
theorem dX6_explains_53 : decode cX6_explains 53 = .ok (.goto (-28), 3) := by decide +kernel
theorem dX6_explains_56 : decode cX6_explains 56 = .ok (.iload_n 2, 1) := by decide +kernel
theorem dX6_explains_57 : decode cX6_explains 57 = .ok (.ireturn, 1) := by decide +kernel
set_option maxRecDepth 20000 in
theorem ggX6_count_X6_ones : GoodIn wsX6_count wsX6_ones := goodIn_r _ [8] (by decide +kernel) (by decide +kernel)
set_option maxRecDepth 20000 in
theorem gX6_count_X6_ones : GoodIn wsX6_count (va_wsS RX6 68 yX6_ones wsX6_ones) := goodIn_app (goodIn_of _ (by decide +kernel)) ggX6_count_X6_ones
theorem dX6_count_0 : decode cX6_count 0 = .ok (.iconst 0, 1) := by decide +kernel
theorem dX6_count_1 : decode cX6_count 1 = .ok (.istore_n 2, 1) := by decide +kernel
theorem dX6_count_2 : decode cX6_count 2 = .ok (.iload_n 1, 1) := by decide +kernel
theorem dX6_count_3 : decode cX6_count 3 = .ok (.tableswitch 72 0 2 #[25, 30, 35], 25) := by decide +kernel
theorem dX6_count_28 : decode cX6_count 28 = .ok (.aload_n 0, 1) := by decide +kernel
theorem dX6_count_29 : decode cX6_count 29 = .ok (.getfield 45, 3) := by decide +kernel
theorem dX6_count_32 : decode cX6_count 32 = .ok (.ireturn, 1) := by decide +kernel
theorem dX6_count_33 : decode cX6_count 33 = .ok (.aload_n 0, 1) := by decide +kernel
theorem dX6_count_34 : decode cX6_count 34 = .ok (.getfield 104, 3) := by decide +kernel
theorem dX6_count_37 : decode cX6_count 37 = .ok (.ireturn, 1) := by decide +kernel
theorem dX6_count_38 : decode cX6_count 38 = .ok (.iconst 0, 1) := by decide +kernel
theorem dX6_count_39 : decode cX6_count 39 = .ok (.istore_n 3, 1) := by decide +kernel
theorem dX6_count_40 : decode cX6_count 40 = .ok (.iload_n 3, 1) := by decide +kernel
theorem dX6_count_41 : decode cX6_count 41 = .ok (.aload_n 0, 1) := by decide +kernel
theorem dX6_count_42 : decode cX6_count 42 = .ok (.getfield 45, 3) := by decide +kernel
theorem dX6_count_45 : decode cX6_count 45 = .ok (.if_icmp .ge 28, 3) := by decide +kernel
theorem dX6_count_48 : decode cX6_count 48 = .ok (.iload_n 2, 1) := by decide +kernel
theorem dX6_count_49 : decode cX6_count 49 = .ok (.aload_n 0, 1) := by decide +kernel
theorem dX6_count_50 : decode cX6_count 50 = .ok (.getfield 7, 3) := by decide +kernel
theorem dX6_count_53 : decode cX6_count 53 = .ok (.iload_n 3, 1) := by decide +kernel
theorem dX6_count_54 : decode cX6_count 54 = .ok (.iaload, 1) := by decide +kernel
theorem dX6_count_55 : decode cX6_count 55 = .ok (.aload_n 0, 1) := by decide +kernel
theorem dX6_count_56 : decode cX6_count 56 = .ok (.getfield 13, 3) := by decide +kernel
theorem dX6_count_59 : decode cX6_count 59 = .ok (.iload_n 3, 1) := by decide +kernel
theorem dX6_count_60 : decode cX6_count 60 = .ok (.iaload, 1) := by decide +kernel
theorem dX6_count_61 : decode cX6_count 61 = .ok (.ior, 1) := by decide +kernel
theorem dX6_count_62 : decode cX6_count 62 = .ok (.invokestatic 68, 3) := by decide +kernel
theorem dX6_count_65 : decode cX6_count 65 = .ok (.iadd, 1) := by decide +kernel
theorem dX6_count_66 : decode cX6_count 66 = .ok (.istore_n 2, 1) := by decide +kernel
theorem dX6_count_67 : decode cX6_count 67 = .ok (.iinc 3 1, 3) := by decide +kernel
theorem dX6_count_70 : decode cX6_count 70 = .ok (.goto (-30), 3) := by decide +kernel
theorem dX6_count_73 : decode cX6_count 73 = .ok (.iload_n 2, 1) := by decide +kernel
theorem dX6_count_74 : decode cX6_count 74 = .ok (.ireturn, 1) := by decide +kernel
theorem dX6_count_75 : decode cX6_count 75 = .ok (.bipush (-2), 2) := by decide +kernel
theorem dX6_count_77 : decode cX6_count 77 = .ok (.ireturn, 1) := by decide +kernel
theorem dJ6_bitCount_0f7a4_0 : decode cJ6_bitCount_0f7a4 0 = .ok (.iload_n 0, 1) := by decide +kernel
theorem dJ6_bitCount_0f7a4_1 : decode cJ6_bitCount_0f7a4 1 = .ok (.iload_n 0, 1) := by decide +kernel
theorem dJ6_bitCount_0f7a4_2 : decode cJ6_bitCount_0f7a4 2 = .ok (.iconst 1, 1) := by decide +kernel
theorem dJ6_bitCount_0f7a4_3 : decode cJ6_bitCount_0f7a4 3 = .ok (.iushr, 1) := by decide +kernel
theorem dJ6_bitCount_0f7a4_4 : decode cJ6_bitCount_0f7a4 4 = .ok (.ldc_w 265, 3) := by decide +kernel
theorem dJ6_bitCount_0f7a4_7 : decode cJ6_bitCount_0f7a4 7 = .ok (.iand, 1) := by decide +kernel
theorem dJ6_bitCount_0f7a4_8 : decode cJ6_bitCount_0f7a4 8 = .ok (.isub, 1) := by decide +kernel
theorem dJ6_bitCount_0f7a4_9 : decode cJ6_bitCount_0f7a4 9 = .ok (.istore_n 0, 1) := by decide +kernel
theorem dJ6_bitCount_0f7a4_10 : decode cJ6_bitCount_0f7a4 10 = .ok (.iload_n 0, 1) := by decide +kernel
theorem dJ6_bitCount_0f7a4_11 : decode cJ6_bitCount_0f7a4 11 = .ok (.ldc_w 266, 3) := by decide +kernel
theorem dJ6_bitCount_0f7a4_14 : decode cJ6_bitCount_0f7a4 14 = .ok (.iand, 1) := by decide +kernel
theorem dJ6_bitCount_0f7a4_15 : decode cJ6_bitCount_0f7a4 15 = .ok (.iload_n 0, 1) := by decide +kernel
theorem dJ6_bitCount_0f7a4_16 : decode cJ6_bitCount_0f7a4 16 = .ok (.iconst 2, 1) := by decide +kernel
theorem dJ6_bitCount_0f7a4_17 : decode cJ6_bitCount_0f7a4 17 = .ok (.iushr, 1) := by decide +kernel
theorem dJ6_bitCount_0f7a4_18 : decode cJ6_bitCount_0f7a4 18 = .ok (.ldc_w 266, 3) := by decide +kernel
theorem dJ6_bitCount_0f7a4_21 : decode cJ6_bitCount_0f7a4 21 = .ok (.iand, 1) := by decide +kernel
theorem dJ6_bitCount_0f7a4_22 : decode cJ6_bitCount_0f7a4 22 = .ok (.iadd, 1) := by decide +kernel
theorem dJ6_bitCount_0f7a4_23 : decode cJ6_bitCount_0f7a4 23 = .ok (.istore_n 0, 1) := by decide +kernel
theorem dJ6_bitCount_0f7a4_24 : decode cJ6_bitCount_0f7a4 24 = .ok (.iload_n 0, 1) := by decide +kernel
theorem dJ6_bitCount_0f7a4_25 : decode cJ6_bitCount_0f7a4 25 = .ok (.iload_n 0, 1) := by decide +kernel
theorem dJ6_bitCount_0f7a4_26 : decode cJ6_bitCount_0f7a4 26 = .ok (.iconst 4, 1) := by decide +kernel
theorem dJ6_bitCount_0f7a4_27 : decode cJ6_bitCount_0f7a4 27 = .ok (.iushr, 1) := by decide +kernel
theorem dJ6_bitCount_0f7a4_28 : decode cJ6_bitCount_0f7a4 28 = .ok (.iadd, 1) := by decide +kernel
theorem dJ6_bitCount_0f7a4_29 : decode cJ6_bitCount_0f7a4 29 = .ok (.ldc_w 267, 3) := by decide +kernel
theorem dJ6_bitCount_0f7a4_32 : decode cJ6_bitCount_0f7a4 32 = .ok (.iand, 1) := by decide +kernel
theorem dJ6_bitCount_0f7a4_33 : decode cJ6_bitCount_0f7a4 33 = .ok (.istore_n 0, 1) := by decide +kernel
theorem dJ6_bitCount_0f7a4_34 : decode cJ6_bitCount_0f7a4 34 = .ok (.iload_n 0, 1) := by decide +kernel
theorem dJ6_bitCount_0f7a4_35 : decode cJ6_bitCount_0f7a4 35 = .ok (.iload_n 0, 1) := by decide +kernel
theorem dJ6_bitCount_0f7a4_36 : decode cJ6_bitCount_0f7a4 36 = .ok (.bipush 8, 2) := by decide +kernel
theorem dJ6_bitCount_0f7a4_38 : decode cJ6_bitCount_0f7a4 38 = .ok (.iushr, 1) := by decide +kernel
theorem dJ6_bitCount_0f7a4_39 : decode cJ6_bitCount_0f7a4 39 = .ok (.iadd, 1) := by decide +kernel
theorem dJ6_bitCount_0f7a4_40 : decode cJ6_bitCount_0f7a4 40 = .ok (.istore_n 0, 1) := by decide +kernel
theorem dJ6_bitCount_0f7a4_41 : decode cJ6_bitCount_0f7a4 41 = .ok (.iload_n 0, 1) := by decide +kernel
theorem dJ6_bitCount_0f7a4_42 : decode cJ6_bitCount_0f7a4 42 = .ok (.iload_n 0, 1) := by decide +kernel
theorem dJ6_bitCount_0f7a4_43 : decode cJ6_bitCount_0f7a4 43 = .ok (.bipush 16, 2) := by decide +kernel
theorem dJ6_bitCount_0f7a4_45 : decode cJ6_bitCount_0f7a4 45 = .ok (.iushr, 1) := by decide +kernel
theorem dJ6_bitCount_0f7a4_46 : decode cJ6_bitCount_0f7a4 46 = .ok (.iadd, 1) := by decide +kernel
theorem dJ6_bitCount_0f7a4_47 : decode cJ6_bitCount_0f7a4 47 = .ok (.istore_n 0, 1) := by decide +kernel
theorem dJ6_bitCount_0f7a4_48 : decode cJ6_bitCount_0f7a4 48 = .ok (.iload_n 0, 1) := by decide +kernel
theorem dJ6_bitCount_0f7a4_49 : decode cJ6_bitCount_0f7a4 49 = .ok (.bipush 63, 2) := by decide +kernel
theorem dJ6_bitCount_0f7a4_51 : decode cJ6_bitCount_0f7a4 51 = .ok (.iand, 1) := by decide +kernel
theorem dJ6_bitCount_0f7a4_52 : decode cJ6_bitCount_0f7a4 52 = .ok (.ireturn, 1) := by decide +kernel
theorem dJ9_max_7cf53_0 : decode cJ9_max_7cf53 0 = .ok (.iload_n 0, 1) := by decide +kernel
theorem dJ9_max_7cf53_1 : decode cJ9_max_7cf53 1 = .ok (.iload_n 1, 1) := by decide +kernel
theorem dJ9_max_7cf53_2 : decode cJ9_max_7cf53 2 = .ok (.if_icmp .lt 7, 3) := by decide +kernel
theorem dJ9_max_7cf53_5 : decode cJ9_max_7cf53 5 = .ok (.iload_n 0, 1) := by decide +kernel
theorem dJ9_max_7cf53_6 : decode cJ9_max_7cf53 6 = .ok (.goto 4, 3) := by decide +kernel
theorem dJ9_max_7cf53_9 : decode cJ9_max_7cf53 9 = .ok (.iload_n 1, 1) := by decide +kernel
theorem dJ9_max_7cf53_10 : decode cJ9_max_7cf53 10 = .ok (.ireturn, 1) := by decide +kernel
theorem dJ9_min_7cf53_0 : decode cJ9_min_7cf53 0 = .ok (.iload_n 0, 1) := by decide +kernel
theorem dJ9_min_7cf53_1 : decode cJ9_min_7cf53 1 = .ok (.iload_n 1, 1) := by decide +kernel
theorem dJ9_min_7cf53_2 : decode cJ9_min_7cf53 2 = .ok (.if_icmp .gt 7, 3) := by decide +kernel
theorem dJ9_min_7cf53_5 : decode cJ9_min_7cf53 5 = .ok (.iload_n 0, 1) := by decide +kernel
theorem dJ9_min_7cf53_6 : decode cJ9_min_7cf53 6 = .ok (.goto 4, 3) := by decide +kernel
theorem dJ9_min_7cf53_9 : decode cJ9_min_7cf53 9 = .ok (.iload_n 1, 1) := by decide +kernel
theorem dJ9_min_7cf53_10 : decode cJ9_min_7cf53 10 = .ok (.ireturn, 1) := by decide +kernel
set_option maxRecDepth 20000 in
theorem ggL_law_X5_init : GoodIn wsL_law wsX5_init := goodIn_r _ [8, 9, 10, 11, 12, 13, 14, 15, 16, 17, 18, 19, 20, 21, 22, 23, 24, 25, 26, 27, 28, 29, 30, 31, 32, 33, 34, 35, 36, 37, 38, 39, 40, 41, 42, 43, 44, 45, 46, 47, 48, 49, 50, 51, 52, 53, 54, 55, 56, 57, 58, 59, 60, 61, 62, 63, 64, 65, 66, 67, 68, 69, 533, 534, 535, 515, 516, 517, 518, 519, 536, 537, 538, 539, 540, 541, 542, 543, 544, 545] (by decide +kernel) (by decide +kernel)
set_option maxRecDepth 20000 in
theorem gL_law_X5_init : GoodIn wsL_law (wsX5_init) := ggL_law_X5_init
set_option maxRecDepth 20000 in
theorem ggL_law_X6_init : GoodIn wsL_law wsX6_init := goodIn_r _ [72, 73, 10, 11, 35, 74, 75, 76, 77, 78, 79, 80, 81, 82, 83, 84, 520, 521, 522, 523, 524, 525, 526, 527, 528, 529, 530, 531, 532] (by decide +kernel) (by decide +kernel)
set_option maxRecDepth 20000 in
theorem gL_law_X6_init : GoodIn wsL_law (wsX6_init) := ggL_law_X6_init
set_option maxRecDepth 20000 in
theorem ggL_law_X5_step : GoodIn wsL_law wsX5_step := goodIn_r _ [88, 15, 89, 90, 2, 91, 92, 93, 94, 95, 96, 97, 14, 98, 38, 99, 100, 101, 102, 36, 37, 103, 104, 515, 516, 517, 518, 519, 533, 534, 535] (by decide +kernel) (by decide +kernel)
set_option maxRecDepth 20000 in
theorem gL_law_X5_step : GoodIn wsL_law (wsV RL 13 RX5 yX5_step wsX5_step) := goodIn_app (goodIn_of _ (by decide +kernel)) ggL_law_X5_step
set_option maxRecDepth 20000 in
theorem ggL_law_X6_step : GoodIn wsL_law wsX6_step := goodIn_r _ [108, 109, 74, 75, 110, 111, 5, 112, 520, 521, 522, 523, 524, 525, 526, 527, 528, 529, 530, 531, 532] (by decide +kernel) (by decide +kernel)
set_option maxRecDepth 20000 in
theorem gL_law_X6_step : GoodIn wsL_law (wsV RL 17 RX6 yX6_step wsX6_step) := goodIn_app (goodIn_of _ (by decide +kernel)) ggL_law_X6_step
set_option maxRecDepth 20000 in
theorem ggL_law_X5_drop : GoodIn wsL_law wsX5_drop := goodIn_r _ [116, 15, 95, 96, 97, 14, 98, 38, 117, 118, 119, 120, 515, 516, 517, 518, 519, 533, 534, 535] (by decide +kernel) (by decide +kernel)
set_option maxRecDepth 20000 in
theorem gL_law_X5_drop : GoodIn wsL_law (wsV RL 18 RX5 yX5_drop wsX5_drop) := goodIn_app (goodIn_of _ (by decide +kernel)) ggL_law_X5_drop
set_option maxRecDepth 20000 in
theorem ggL_law_X6_drop : GoodIn wsL_law wsX6_drop := goodIn_r _ [124, 109, 520, 521, 522, 523, 524, 525, 526, 527, 528, 529, 530, 531, 532] (by decide +kernel) (by decide +kernel)
set_option maxRecDepth 20000 in
theorem gL_law_X6_drop : GoodIn wsL_law (wsV RL 22 RX6 yX6_drop wsX6_drop) := goodIn_app (goodIn_of _ (by decide +kernel)) ggL_law_X6_drop
set_option maxRecDepth 20000 in
theorem ggL_law_X5_sound : GoodIn wsL_law wsX5_sound := goodIn_r _ [128, 15, 129, 130, 131, 14, 132, 38, 36, 37, 133, 2, 134, 135, 103, 104, 515, 516, 517, 518, 519, 533, 534, 535] (by decide +kernel) (by decide +kernel)
set_option maxRecDepth 20000 in
theorem gL_law_X5_sound : GoodIn wsL_law (wsV RL 23 RX5 yX5_sound wsX5_sound) := goodIn_app (goodIn_of _ (by decide +kernel)) ggL_law_X5_sound
set_option maxRecDepth 20000 in
theorem ggL_law_X6_sound : GoodIn wsL_law wsX6_sound := goodIn_r _ [139, 83, 109, 74, 75, 520, 521, 522, 523, 524, 525, 526, 527, 528, 529, 530, 531, 532] (by decide +kernel) (by decide +kernel)
set_option maxRecDepth 20000 in
theorem gL_law_X6_sound : GoodIn wsL_law (wsV RL 26 RX6 yX6_sound wsX6_sound) := goodIn_app (goodIn_of _ (by decide +kernel)) ggL_law_X6_sound
set_option maxRecDepth 20000 in
theorem ggL_law_X5_state : GoodIn wsL_law wsX5_state := goodIn_r _ [143, 15, 95, 96, 97, 14, 98, 38, 92, 93, 2, 94, 144, 145, 146, 147, 148, 130, 131, 132, 36, 37, 133, 134, 135, 103, 104, 149, 150, 151, 152, 515, 516, 517, 518, 519, 533, 534, 535] (by decide +kernel) (by decide +kernel)
set_option maxRecDepth 20000 in
theorem gL_law_X5_state : GoodIn wsL_law (wsV RL 27 RX5 yX5_state wsX5_state) := goodIn_app (goodIn_of _ (by decide +kernel)) ggL_law_X5_state
set_option maxRecDepth 20000 in
theorem ggL_law_X6_state : GoodIn wsL_law wsX6_state := goodIn_r _ [156, 83, 157, 158, 159, 5, 160, 109, 110, 111, 112, 161, 162, 163, 164, 165, 137, 138, 139, 74, 75, 520, 521, 522, 523, 524, 525, 526, 527, 528, 529, 530, 531, 532] (by decide +kernel) (by decide +kernel)
set_option maxRecDepth 20000 in
theorem gL_law_X6_state : GoodIn wsL_law (wsV RL 31 RX6 yX6_state wsX6_state) := goodIn_app (goodIn_of _ (by decide +kernel)) ggL_law_X6_state
set_option maxRecDepth 20000 in
theorem ggL_law_X5_clash : GoodIn wsL_law wsX5_clash := goodIn_r _ [169, 15, 92, 93, 2, 94, 144, 145, 146, 14, 147, 148, 130, 131, 132, 38, 36, 37, 133, 134, 135, 103, 104, 170, 171, 172, 173, 19, 174, 175, 176, 18, 177, 178, 96, 97, 98, 179, 180, 181, 182, 43, 183, 184, 185, 186, 187, 188, 189, 190, 191, 192, 193, 194, 195, 196, 197, 198, 199, 200, 201, 202, 203, 204, 205, 206, 44, 42, 95, 207, 208, 209, 210, 211, 212, 213, 214, 215, 216, 217, 218, 219, 149, 150, 151, 152, 220, 221, 222, 223, 224, 225, 226, 227, 228, 229, 515, 516, 517, 518, 519, 533, 534, 535, 536, 537, 538] (by decide +kernel) (by decide +kernel)
set_option maxRecDepth 20000 in
theorem gL_law_X5_clash : GoodIn wsL_law (wsV RL 32 RX5 yX5_clash wsX5_clash) := goodIn_app (goodIn_of _ (by decide +kernel)) ggL_law_X5_clash
set_option maxRecDepth 20000 in
theorem ggL_law_X6_clash : GoodIn wsL_law wsX6_clash := goodIn_r _ [233, 110, 111, 5, 112, 161, 162, 163, 164, 165, 137, 138, 139, 83, 109, 74, 75, 234, 235, 236, 237, 238, 239, 240, 241, 242, 243, 244, 245, 246, 247, 248, 249, 250, 251, 252, 253, 254, 255, 256, 257, 258, 259, 260, 261, 262, 263, 264, 265, 266, 267, 268, 269, 270, 271, 272, 520, 521, 522, 523, 524, 525, 526, 527, 528, 529, 530, 531, 532] (by decide +kernel) (by decide +kernel)
set_option maxRecDepth 20000 in
theorem gL_law_X6_clash : GoodIn wsL_law (wsV RL 35 RX6 yX6_clash wsX6_clash) := goodIn_app (goodIn_of _ (by decide +kernel)) ggL_law_X6_clash
set_option maxRecDepth 20000 in
theorem ggL_law_X5_clashOf : GoodIn wsL_law wsX5_clashOf := goodIn_r _ [276, 15, 92, 93, 2, 94, 144, 145, 146, 14, 147, 148, 130, 131, 132, 38, 36, 37, 133, 134, 135, 103, 104, 170, 171, 172, 173, 19, 174, 175, 176, 18, 177, 178, 96, 97, 98, 179, 180, 181, 182, 43, 183, 184, 185, 186, 187, 188, 189, 190, 191, 192, 193, 194, 195, 196, 197, 198, 199, 200, 201, 202, 203, 204, 205, 206, 44, 42, 95, 207, 208, 209, 210, 211, 212, 213, 214, 215, 216, 217, 218, 219, 149, 150, 151, 152, 220, 221, 222, 223, 224, 225, 226, 227, 228, 229, 277, 278, 279, 280, 281, 282, 515, 516, 517, 518, 519, 533, 534, 535, 536, 537, 538] (by decide +kernel) (by decide +kernel)
set_option maxRecDepth 20000 in
theorem gL_law_X5_clashOf : GoodIn wsL_law (wsV RL 36 RX5 yX5_clashOf wsX5_clashOf) := goodIn_app (goodIn_of _ (by decide +kernel)) ggL_law_X5_clashOf
set_option maxRecDepth 20000 in
theorem ggL_law_X6_clashOf : GoodIn wsL_law wsX6_clashOf := goodIn_r _ [286, 110, 111, 5, 112, 161, 162, 163, 164, 165, 137, 138, 139, 83, 109, 74, 75, 234, 235, 236, 237, 238, 239, 240, 241, 242, 243, 244, 245, 246, 247, 248, 249, 250, 251, 252, 253, 254, 255, 256, 257, 258, 259, 260, 261, 262, 263, 264, 265, 266, 267, 268, 269, 270, 271, 272, 520, 521, 522, 523, 524, 525, 526, 527, 528, 529, 530, 531, 532] (by decide +kernel) (by decide +kernel)
set_option maxRecDepth 20000 in
theorem gL_law_X6_clashOf : GoodIn wsL_law (wsV RL 39 RX6 yX6_clashOf wsX6_clashOf) := goodIn_app (goodIn_of _ (by decide +kernel)) ggL_law_X6_clashOf
set_option maxRecDepth 20000 in
theorem ggL_law_X5_groups : GoodIn wsL_law wsX5_groups := goodIn_r _ [290, 15, 19, 144, 145, 146, 14, 147, 148, 130, 131, 132, 38, 36, 37, 133, 2, 134, 135, 103, 104, 174, 175, 176, 18, 177, 178, 96, 97, 98, 179, 180, 181, 182, 43, 183, 184, 185, 186, 187, 188, 189, 190, 191, 192, 193, 194, 93, 94, 195, 196, 197, 198, 199, 200, 201, 202, 203, 204, 205, 206, 44, 42, 291, 292, 293, 294, 515, 516, 517, 518, 519, 533, 534, 535, 536, 537, 538] (by decide +kernel) (by decide +kernel)
set_option maxRecDepth 20000 in
theorem gL_law_X5_groups : GoodIn wsL_law (wsV RL 40 RX5 yX5_groups wsX5_groups) := goodIn_app (goodIn_of _ (by decide +kernel)) ggL_law_X5_groups
set_option maxRecDepth 20000 in
theorem ggL_law_X6_groups : GoodIn wsL_law wsX6_groups := goodIn_r _ [298, 242, 161, 162, 163, 5, 164, 165, 137, 138, 139, 83, 109, 74, 75, 238, 239, 240, 241, 243, 244, 245, 246, 247, 248, 249, 250, 251, 252, 520, 521, 522, 523, 524, 525, 526, 527, 528, 529, 530, 531, 532] (by decide +kernel) (by decide +kernel)
set_option maxRecDepth 20000 in
theorem gL_law_X6_groups : GoodIn wsL_law (wsV RL 43 RX6 yX6_groups wsX6_groups) := goodIn_app (goodIn_of _ (by decide +kernel)) ggL_law_X6_groups
set_option maxRecDepth 20000 in
theorem ggL_law_X5_cut : GoodIn wsL_law wsX5_cut := goodIn_r _ [302, 15, 19, 144, 145, 146, 14, 147, 148, 130, 131, 132, 38, 36, 37, 133, 2, 134, 135, 103, 104, 174, 175, 176, 18, 177, 178, 96, 97, 98, 179, 180, 181, 182, 43, 183, 184, 185, 186, 187, 188, 189, 190, 191, 192, 193, 194, 93, 94, 195, 196, 197, 198, 199, 200, 201, 202, 203, 204, 205, 206, 44, 42, 291, 292, 293, 294, 303, 304, 305, 306, 515, 516, 517, 518, 519, 533, 534, 535, 536, 537, 538] (by decide +kernel) (by decide +kernel)
set_option maxRecDepth 20000 in
theorem gL_law_X5_cut : GoodIn wsL_law (wsV RL 44 RX5 yX5_cut wsX5_cut) := goodIn_app (goodIn_of _ (by decide +kernel)) ggL_law_X5_cut
set_option maxRecDepth 20000 in
theorem ggL_law_X6_cut : GoodIn wsL_law wsX6_cut := goodIn_r _ [310, 109, 242, 161, 162, 163, 5, 164, 165, 137, 138, 139, 83, 74, 75, 238, 239, 240, 241, 243, 244, 245, 246, 247, 248, 249, 250, 251, 252, 520, 521, 522, 523, 524, 525, 526, 527, 528, 529, 530, 531, 532] (by decide +kernel) (by decide +kernel)
set_option maxRecDepth 20000 in
theorem gL_law_X6_cut : GoodIn wsL_law (wsV RL 47 RX6 yX6_cut wsX6_cut) := goodIn_app (goodIn_of _ (by decide +kernel)) ggL_law_X6_cut
set_option maxRecDepth 20000 in
theorem ggL_law_X5_memories : GoodIn wsL_law wsX5_memories := goodIn_r _ [314, 15, 144, 145, 146, 14, 147, 148, 130, 131, 132, 38, 36, 37, 133, 2, 134, 135, 103, 104, 315, 316, 317, 318, 319, 320, 189, 321, 322, 323, 324, 325, 515, 516, 517, 518, 519, 533, 534, 535] (by decide +kernel) (by decide +kernel)
set_option maxRecDepth 20000 in
theorem gL_law_X5_memories : GoodIn wsL_law (wsV RL 48 RX5 yX5_memories wsX5_memories) := goodIn_app (goodIn_of _ (by decide +kernel)) ggL_law_X5_memories
set_option maxRecDepth 20000 in
theorem ggL_law_X6_memories : GoodIn wsL_law wsX6_memories := goodIn_r _ [329, 109, 83, 161, 162, 163, 5, 164, 165, 137, 138, 139, 74, 75, 520, 521, 522, 523, 524, 525, 526, 527, 528, 529, 530, 531, 532] (by decide +kernel) (by decide +kernel)
set_option maxRecDepth 20000 in
theorem gL_law_X6_memories : GoodIn wsL_law (wsV RL 51 RX6 yX6_memories wsX6_memories) := goodIn_app (goodIn_of _ (by decide +kernel)) ggL_law_X6_memories
set_option maxRecDepth 20000 in
theorem ggL_law_X5_pace : GoodIn wsL_law wsX5_pace := goodIn_r _ [333, 31, 92, 93, 2, 94, 334, 335, 336, 337, 338, 339, 30, 340, 68, 69, 515, 516, 517, 518, 519, 544, 545] (by decide +kernel) (by decide +kernel)
set_option maxRecDepth 20000 in
theorem gL_law_X5_pace : GoodIn wsL_law (wsV RL 52 RX5 yX5_pace wsX5_pace) := goodIn_app (goodIn_of _ (by decide +kernel)) ggL_law_X5_pace
set_option maxRecDepth 20000 in
theorem ggL_law_X6_pace : GoodIn wsL_law wsX6_pace := goodIn_r _ [344, 76, 77, 345, 346, 5, 347, 110, 111, 112, 520, 521, 522, 523, 524, 525, 526, 527, 528, 529, 530, 531, 532] (by decide +kernel) (by decide +kernel)
set_option maxRecDepth 20000 in
theorem gL_law_X6_pace : GoodIn wsL_law (wsV RL 56 RX6 yX6_pace wsX6_pace) := goodIn_app (goodIn_of _ (by decide +kernel)) ggL_law_X6_pace
set_option maxRecDepth 20000 in
theorem ggL_law_X5_span : GoodIn wsL_law wsX5_span := goodIn_r _ [351, 15, 31, 92, 93, 2, 94, 144, 145, 146, 14, 147, 148, 130, 131, 132, 38, 36, 37, 133, 134, 135, 103, 104, 352, 353, 354, 30, 355, 68, 356, 357, 358, 359, 96, 97, 98, 360, 192, 193, 194, 361, 362, 363, 364, 320, 189, 321, 281, 282, 365, 366, 367, 368, 69, 369, 370, 371, 372, 515, 516, 517, 518, 519, 533, 534, 535, 544, 545] (by decide +kernel) (by decide +kernel)
set_option maxRecDepth 20000 in
theorem gL_law_X5_span : GoodIn wsL_law (wsV RL 57 RX5 yX5_span wsX5_span) := goodIn_app (goodIn_of _ (by decide +kernel)) ggL_law_X5_span
set_option maxRecDepth 20000 in
theorem ggL_law_X6_span : GoodIn wsL_law wsX6_span := goodIn_r _ [376, 109, 76, 77, 110, 111, 5, 112, 161, 162, 163, 164, 165, 137, 138, 139, 83, 74, 75, 377, 378, 379, 380, 520, 521, 522, 523, 524, 525, 526, 527, 528, 529, 530, 531, 532] (by decide +kernel) (by decide +kernel)
set_option maxRecDepth 20000 in
theorem gL_law_X6_span : GoodIn wsL_law (wsV RL 60 RX6 yX6_span wsX6_span) := goodIn_app (goodIn_of _ (by decide +kernel)) ggL_law_X6_span
set_option maxRecDepth 20000 in
theorem ggL_law_X5_law : GoodIn wsL_law wsX5_law := goodIn_r _ [384, 23, 27, 92, 93, 2, 94, 385, 386, 387, 22, 388, 50, 334, 335, 336, 389, 390, 391, 392, 48, 49, 393, 394, 395, 26, 396, 55, 56, 397, 398, 399, 400, 401, 402, 403, 404, 103, 104, 405, 406, 407, 408, 133, 134, 135, 195, 196, 197, 198, 199, 200, 201, 202, 281, 282, 409, 410, 515, 516, 517, 518, 519, 539, 540, 541, 542, 543] (by decide +kernel) (by decide +kernel)
set_option maxRecDepth 20000 in
theorem gL_law_X5_law : GoodIn wsL_law (wsV RL 61 RX5 yX5_law wsX5_law) := goodIn_app (goodIn_of _ (by decide +kernel)) ggL_law_X5_law
set_option maxRecDepth 20000 in
theorem ggL_law_X6_law : GoodIn wsL_law wsX6_law := goodIn_r _ [414, 415, 78, 80, 81, 82, 345, 346, 5, 347, 110, 111, 112, 520, 521, 522, 523, 524, 525, 526, 527, 528, 529, 530, 531, 532] (by decide +kernel) (by decide +kernel)
set_option maxRecDepth 20000 in
theorem gL_law_X6_law : GoodIn wsL_law (wsV RL 65 RX6 yX6_law wsX6_law) := goodIn_app (goodIn_of _ (by decide +kernel)) ggL_law_X6_law
set_option maxRecDepth 20000 in
theorem ggL_law_X5_repeal : GoodIn wsL_law wsX5_repeal := goodIn_r _ [419, 23, 27, 385, 386, 387, 22, 388, 50, 92, 93, 2, 94, 420, 421, 422, 423, 48, 49, 393, 394, 395, 26, 396, 55, 56, 397, 398, 399, 400, 401, 402, 403, 404, 103, 104, 405, 406, 407, 408, 133, 134, 135, 195, 196, 197, 198, 199, 200, 201, 202, 281, 282, 409, 410, 515, 516, 517, 518, 519, 539, 540, 541, 542, 543] (by decide +kernel) (by decide +kernel)
set_option maxRecDepth 20000 in
theorem gL_law_X5_repeal : GoodIn wsL_law (wsV RL 66 RX5 yX5_repeal wsX5_repeal) := goodIn_app (goodIn_of _ (by decide +kernel)) ggL_law_X5_repeal
set_option maxRecDepth 20000 in
theorem ggL_law_X6_repeal : GoodIn wsL_law wsX6_repeal := goodIn_r _ [427, 415, 78, 80, 81, 82, 110, 111, 5, 112, 520, 521, 522, 523, 524, 525, 526, 527, 528, 529, 530, 531, 532] (by decide +kernel) (by decide +kernel)
set_option maxRecDepth 20000 in
theorem gL_law_X6_repeal : GoodIn wsL_law (wsV RL 69 RX6 yX6_repeal wsX6_repeal) := goodIn_app (goodIn_of _ (by decide +kernel)) ggL_law_X6_repeal
set_option maxRecDepth 20000 in
theorem ggL_law_X5_breach : GoodIn wsL_law wsX5_breach := goodIn_r _ [431, 15, 23, 144, 145, 146, 14, 147, 148, 130, 131, 132, 38, 36, 37, 133, 2, 134, 135, 103, 104, 95, 96, 97, 98, 229, 192, 193, 194, 93, 94, 149, 150, 151, 152, 432, 406, 407, 22, 408, 50, 49, 48, 195, 196, 197, 198, 199, 200, 201, 202, 281, 282, 409, 410, 515, 516, 517, 518, 519, 533, 534, 535, 539, 540, 541] (by decide +kernel) (by decide +kernel)
set_option maxRecDepth 20000 in
theorem gL_law_X5_breach : GoodIn wsL_law (wsV RL 70 RX5 yX5_breach wsX5_breach) := goodIn_app (goodIn_of _ (by decide +kernel)) ggL_law_X5_breach
set_option maxRecDepth 20000 in
theorem ggL_law_X6_breach : GoodIn wsL_law wsX6_breach := goodIn_r _ [436, 109, 74, 75, 83, 161, 162, 163, 5, 164, 165, 137, 138, 139, 437, 438, 439, 440, 415, 80, 78, 81, 82, 520, 521, 522, 523, 524, 525, 526, 527, 528, 529, 530, 531, 532] (by decide +kernel) (by decide +kernel)
set_option maxRecDepth 20000 in
theorem gL_law_X6_breach : GoodIn wsL_law (wsV RL 73 RX6 yX6_breach wsX6_breach) := goodIn_app (goodIn_of _ (by decide +kernel)) ggL_law_X6_breach
set_option maxRecDepth 20000 in
theorem ggL_law_X5_home : GoodIn wsL_law wsX5_home := goodIn_r _ [444, 27, 89, 90, 2, 91, 92, 93, 94, 445, 446, 447, 26, 448, 55, 515, 516, 517, 518, 519, 542, 543] (by decide +kernel) (by decide +kernel)
set_option maxRecDepth 20000 in
theorem gL_law_X5_home : GoodIn wsL_law (wsV RL 74 RX5 yX5_home wsX5_home) := goodIn_app (goodIn_of _ (by decide +kernel)) ggL_law_X5_home
set_option maxRecDepth 20000 in
theorem ggL_law_X6_home : GoodIn wsL_law wsX6_home := goodIn_r _ [452, 84, 110, 111, 5, 112, 453, 454, 455, 456, 457, 458, 459, 460, 437, 438, 439, 440, 415, 80, 78, 81, 82, 520, 521, 522, 523, 524, 525, 526, 527, 528, 529, 530, 531, 532] (by decide +kernel) (by decide +kernel)
set_option maxRecDepth 20000 in
theorem gL_law_X6_home : GoodIn wsL_law (wsV RL 77 RX6 yX6_home wsX6_home) := goodIn_app (goodIn_of _ (by decide +kernel)) ggL_law_X6_home
set_option maxRecDepth 20000 in
theorem ggL_law_X5_way : GoodIn wsL_law wsX5_way := goodIn_r _ [464, 27, 23, 89, 90, 2, 91, 92, 93, 94, 465, 466, 467, 26, 468, 469, 446, 447, 448, 55, 470, 471, 472, 473, 401, 402, 403, 22, 404, 103, 104, 405, 406, 407, 408, 50, 49, 48, 133, 134, 135, 195, 196, 197, 198, 199, 200, 201, 202, 281, 282, 409, 410, 515, 516, 517, 518, 519, 542, 543, 539, 540, 541] (by decide +kernel) (by decide +kernel)
set_option maxRecDepth 20000 in
theorem gL_law_X5_way : GoodIn wsL_law (wsV RL 78 RX5 yX5_way wsX5_way) := goodIn_app (goodIn_of _ (by decide +kernel)) ggL_law_X5_way
set_option maxRecDepth 20000 in
theorem ggL_law_X6_way : GoodIn wsL_law wsX6_way := goodIn_r _ [477, 84, 110, 111, 5, 112, 453, 454, 455, 456, 457, 458, 459, 460, 437, 438, 439, 440, 415, 80, 78, 81, 82, 520, 521, 522, 523, 524, 525, 526, 527, 528, 529, 530, 531, 532] (by decide +kernel) (by decide +kernel)
set_option maxRecDepth 20000 in
theorem gL_law_X6_way : GoodIn wsL_law (wsV RL 81 RX6 yX6_way wsX6_way) := goodIn_app (goodIn_of _ (by decide +kernel)) ggL_law_X6_way
set_option maxRecDepth 20000 in
theorem ggL_law_X5_stops : GoodIn wsL_law wsX5_stops := goodIn_r _ [481, 15, 92, 93, 2, 94, 144, 145, 146, 14, 147, 148, 130, 131, 132, 38, 36, 37, 133, 134, 135, 103, 104, 95, 96, 97, 98, 215, 216, 217, 218, 219, 192, 193, 194, 280, 281, 282, 515, 516, 517, 518, 519, 533, 534, 535] (by decide +kernel) (by decide +kernel)
set_option maxRecDepth 20000 in
theorem gL_law_X5_stops : GoodIn wsL_law (wsV RL 82 RX5 yX5_stops wsX5_stops) := goodIn_app (goodIn_of _ (by decide +kernel)) ggL_law_X5_stops
set_option maxRecDepth 20000 in
theorem ggL_law_X6_stops : GoodIn wsL_law wsX6_stops := goodIn_r _ [485, 110, 111, 5, 112, 161, 162, 163, 164, 165, 137, 138, 139, 83, 109, 74, 75, 486, 487, 488, 489, 490, 491, 492, 493, 265, 266, 267, 268, 520, 521, 522, 523, 524, 525, 526, 527, 528, 529, 530, 531, 532] (by decide +kernel) (by decide +kernel)
set_option maxRecDepth 20000 in
theorem gL_law_X6_stops : GoodIn wsL_law (wsV RL 85 RX6 yX6_stops wsX6_stops) := goodIn_app (goodIn_of _ (by decide +kernel)) ggL_law_X6_stops
set_option maxRecDepth 20000 in
theorem ggL_law_X5_explains : GoodIn wsL_law wsX5_explains := goodIn_r _ [497, 15, 95, 96, 97, 14, 98, 38, 92, 93, 2, 94, 144, 145, 146, 147, 148, 130, 131, 132, 36, 37, 133, 134, 135, 103, 104, 215, 216, 217, 218, 219, 192, 193, 194, 515, 516, 517, 518, 519, 533, 534, 535] (by decide +kernel) (by decide +kernel)
set_option maxRecDepth 20000 in
theorem gL_law_X5_explains : GoodIn wsL_law (wsV RL 86 RX5 yX5_explains wsX5_explains) := goodIn_app (goodIn_of _ (by decide +kernel)) ggL_law_X5_explains
set_option maxRecDepth 20000 in
theorem ggL_law_X6_explains : GoodIn wsL_law wsX6_explains := goodIn_r _ [501, 157, 158, 159, 5, 160, 109, 110, 111, 112, 161, 162, 163, 164, 165, 137, 138, 139, 83, 74, 75, 486, 487, 488, 489, 490, 491, 492, 493, 265, 266, 267, 268, 520, 521, 522, 523, 524, 525, 526, 527, 528, 529, 530, 531, 532] (by decide +kernel) (by decide +kernel)
set_option maxRecDepth 20000 in
theorem gL_law_X6_explains : GoodIn wsL_law (wsV RL 89 RX6 yX6_explains wsX6_explains) := goodIn_app (goodIn_of _ (by decide +kernel)) ggL_law_X6_explains
set_option maxRecDepth 20000 in
theorem ggL_law_X5_count : GoodIn wsL_law wsX5_count := goodIn_r _ [505, 15, 23, 95, 96, 97, 14, 98, 38, 385, 386, 387, 22, 388, 50, 506, 507, 508, 509, 36, 510, 58, 59, 60, 61, 62, 63, 515, 516, 517, 518, 519, 533, 534, 535, 539, 540, 541] (by decide +kernel) (by decide +kernel)
set_option maxRecDepth 20000 in
theorem gL_law_X5_count : GoodIn wsL_law (wsV RL 90 RX5 yX5_count wsX5_count) := goodIn_app (goodIn_of _ (by decide +kernel)) ggL_law_X5_count
set_option maxRecDepth 20000 in
theorem ggL_law_X6_count : GoodIn wsL_law wsX6_count := goodIn_r _ [514, 109, 415, 74, 75, 243, 244, 5, 245, 520, 521, 522, 523, 524, 525, 526, 527, 528, 529, 530, 531, 532] (by decide +kernel) (by decide +kernel)
set_option maxRecDepth 20000 in
theorem gL_law_X6_count : GoodIn wsL_law (wsV RL 93 RX6 yX6_count wsX6_count) := goodIn_app (goodIn_of _ (by decide +kernel)) ggL_law_X6_count
theorem dL_law_0 : decode cL_law 0 = .ok (.new 7, 3) := by decide +kernel
theorem dL_law_3 : decode cL_law 3 = .ok (.dup, 1) := by decide +kernel
theorem dL_law_4 : decode cL_law 4 = .ok (.invokespecial 9, 3) := by decide +kernel
theorem dL_law_7 : decode cL_law 7 = .ok (.astore_n 1, 1) := by decide +kernel
theorem dL_law_8 : decode cL_law 8 = .ok (.new 10, 3) := by decide +kernel
theorem dL_law_11 : decode cL_law 11 = .ok (.dup, 1) := by decide +kernel
theorem dL_law_12 : decode cL_law 12 = .ok (.invokespecial 12, 3) := by decide +kernel
theorem dL_law_15 : decode cL_law 15 = .ok (.astore_n 2, 1) := by decide +kernel
theorem dL_law_16 : decode cL_law 16 = .ok (.iconst 0, 1) := by decide +kernel
theorem dL_law_17 : decode cL_law 17 = .ok (.istore_n 3, 1) := by decide +kernel
theorem dL_law_18 : decode cL_law 18 = .ok (.iload_n 3, 1) := by decide +kernel
theorem dL_law_19 : decode cL_law 19 = .ok (.aload_n 0, 1) := by decide +kernel
theorem dL_law_20 : decode cL_law 20 = .ok (.arraylength, 1) := by decide +kernel
theorem dL_law_21 : decode cL_law 21 = .ok (.iconst 5, 1) := by decide +kernel
theorem dL_law_22 : decode cL_law 22 = .ok (.isub, 1) := by decide +kernel
theorem dL_law_23 : decode cL_law 23 = .ok (.if_icmp .gt 622, 3) := by decide +kernel
theorem dL_law_26 : decode cL_law 26 = .ok (.aload_n 0, 1) := by decide +kernel
theorem dL_law_27 : decode cL_law 27 = .ok (.iload_n 3, 1) := by decide +kernel
theorem dL_law_28 : decode cL_law 28 = .ok (.iaload, 1) := by decide +kernel
theorem dL_law_29 : decode cL_law 29 = .ok (.bipush 31, 2) := by decide +kernel
theorem dL_law_31 : decode cL_law 31 = .ok (.iand, 1) := by decide +kernel
theorem dL_law_32 : decode cL_law 32 = .ok (.tableswitch 607 0 18 #[92, 125, 138, 151, 174, 197, 220, 233, 256, 269, 338, 361, 446, 469, 482, 505, 538, 561, 584], 92) := by decide +kernel
theorem dL_law_124 : decode cL_law 124 = .ok (.aload_n 1, 1) := by decide +kernel
theorem dL_law_125 : decode cL_law 125 = .ok (.aload_n 0, 1) := by decide +kernel
theorem dL_law_126 : decode cL_law 126 = .ok (.iload_n 3, 1) := by decide +kernel
theorem dL_law_127 : decode cL_law 127 = .ok (.iconst 1, 1) := by decide +kernel
theorem dL_law_128 : decode cL_law 128 = .ok (.iadd, 1) := by decide +kernel
theorem dL_law_129 : decode cL_law 129 = .ok (.iaload, 1) := by decide +kernel
theorem dL_law_130 : decode cL_law 130 = .ok (.aload_n 0, 1) := by decide +kernel
theorem dL_law_131 : decode cL_law 131 = .ok (.iload_n 3, 1) := by decide +kernel
theorem dL_law_132 : decode cL_law 132 = .ok (.iconst 2, 1) := by decide +kernel
theorem dL_law_133 : decode cL_law 133 = .ok (.iadd, 1) := by decide +kernel
theorem dL_law_134 : decode cL_law 134 = .ok (.iaload, 1) := by decide +kernel
theorem dL_law_135 : decode cL_law 135 = .ok (.invokevirtual 13, 3) := by decide +kernel
theorem dL_law_138 : decode cL_law 138 = .ok (.aload_n 2, 1) := by decide +kernel
theorem dL_law_139 : decode cL_law 139 = .ok (.aload_n 0, 1) := by decide +kernel
theorem dL_law_140 : decode cL_law 140 = .ok (.iload_n 3, 1) := by decide +kernel
theorem dL_law_141 : decode cL_law 141 = .ok (.iconst 1, 1) := by decide +kernel
theorem dL_law_142 : decode cL_law 142 = .ok (.iadd, 1) := by decide +kernel
theorem dL_law_143 : decode cL_law 143 = .ok (.iaload, 1) := by decide +kernel
theorem dL_law_144 : decode cL_law 144 = .ok (.aload_n 0, 1) := by decide +kernel
theorem dL_law_145 : decode cL_law 145 = .ok (.iload_n 3, 1) := by decide +kernel
theorem dL_law_146 : decode cL_law 146 = .ok (.iconst 2, 1) := by decide +kernel
theorem dL_law_147 : decode cL_law 147 = .ok (.iadd, 1) := by decide +kernel
theorem dL_law_148 : decode cL_law 148 = .ok (.iaload, 1) := by decide +kernel
theorem dL_law_149 : decode cL_law 149 = .ok (.invokevirtual 17, 3) := by decide +kernel
theorem dL_law_152 : decode cL_law 152 = .ok (.if_icmp .eq 487, 3) := by decide +kernel
theorem dL_law_155 : decode cL_law 155 = .ok (.iconst 0, 1) := by decide +kernel
theorem dL_law_156 : decode cL_law 156 = .ok (.ireturn, 1) := by decide +kernel
theorem dL_law_157 : decode cL_law 157 = .ok (.aload_n 1, 1) := by decide +kernel
theorem dL_law_158 : decode cL_law 158 = .ok (.invokevirtual 18, 3) := by decide +kernel
theorem dL_law_161 : decode cL_law 161 = .ok (.aload_n 2, 1) := by decide +kernel
theorem dL_law_162 : decode cL_law 162 = .ok (.invokevirtual 22, 3) := by decide +kernel
theorem dL_law_165 : decode cL_law 165 = .ok (.if_icmp .eq 474, 3) := by decide +kernel
theorem dL_law_168 : decode cL_law 168 = .ok (.iconst 0, 1) := by decide +kernel
theorem dL_law_169 : decode cL_law 169 = .ok (.ireturn, 1) := by decide +kernel
theorem dL_law_170 : decode cL_law 170 = .ok (.aload_n 1, 1) := by decide +kernel
theorem dL_law_171 : decode cL_law 171 = .ok (.invokevirtual 23, 3) := by decide +kernel
theorem dL_law_174 : decode cL_law 174 = .ok (.aload_n 2, 1) := by decide +kernel
theorem dL_law_175 : decode cL_law 175 = .ok (.invokevirtual 26, 3) := by decide +kernel
theorem dL_law_178 : decode cL_law 178 = .ok (.if_icmp .eq 461, 3) := by decide +kernel
theorem dL_law_181 : decode cL_law 181 = .ok (.iconst 0, 1) := by decide +kernel
theorem dL_law_182 : decode cL_law 182 = .ok (.ireturn, 1) := by decide +kernel
theorem dL_law_183 : decode cL_law 183 = .ok (.aload_n 1, 1) := by decide +kernel
theorem dL_law_184 : decode cL_law 184 = .ok (.aload_n 0, 1) := by decide +kernel
theorem dL_law_185 : decode cL_law 185 = .ok (.iload_n 3, 1) := by decide +kernel
theorem dL_law_186 : decode cL_law 186 = .ok (.iconst 1, 1) := by decide +kernel
theorem dL_law_187 : decode cL_law 187 = .ok (.iadd, 1) := by decide +kernel
theorem dL_law_188 : decode cL_law 188 = .ok (.iaload, 1) := by decide +kernel
theorem dL_law_189 : decode cL_law 189 = .ok (.invokevirtual 27, 3) := by decide +kernel
theorem dL_law_192 : decode cL_law 192 = .ok (.aload_n 2, 1) := by decide +kernel
theorem dL_law_193 : decode cL_law 193 = .ok (.aload_n 0, 1) := by decide +kernel
theorem dL_law_194 : decode cL_law 194 = .ok (.iload_n 3, 1) := by decide +kernel
theorem dL_law_195 : decode cL_law 195 = .ok (.iconst 1, 1) := by decide +kernel
theorem dL_law_196 : decode cL_law 196 = .ok (.iadd, 1) := by decide +kernel
theorem dL_law_197 : decode cL_law 197 = .ok (.iaload, 1) := by decide +kernel
theorem dL_law_198 : decode cL_law 198 = .ok (.invokevirtual 31, 3) := by decide +kernel
theorem dL_law_201 : decode cL_law 201 = .ok (.if_icmp .eq 438, 3) := by decide +kernel
theorem dL_law_204 : decode cL_law 204 = .ok (.iconst 0, 1) := by decide +kernel
theorem dL_law_205 : decode cL_law 205 = .ok (.ireturn, 1) := by decide +kernel
theorem dL_law_206 : decode cL_law 206 = .ok (.aload_n 1, 1) := by decide +kernel
theorem dL_law_207 : decode cL_law 207 = .ok (.aload_n 0, 1) := by decide +kernel
theorem dL_law_208 : decode cL_law 208 = .ok (.iload_n 3, 1) := by decide +kernel
theorem dL_law_209 : decode cL_law 209 = .ok (.iconst 1, 1) := by decide +kernel
theorem dL_law_210 : decode cL_law 210 = .ok (.iadd, 1) := by decide +kernel
theorem dL_law_211 : decode cL_law 211 = .ok (.iaload, 1) := by decide +kernel
theorem dL_law_212 : decode cL_law 212 = .ok (.invokevirtual 32, 3) := by decide +kernel
theorem dL_law_215 : decode cL_law 215 = .ok (.aload_n 2, 1) := by decide +kernel
theorem dL_law_216 : decode cL_law 216 = .ok (.aload_n 0, 1) := by decide +kernel
theorem dL_law_217 : decode cL_law 217 = .ok (.iload_n 3, 1) := by decide +kernel
theorem dL_law_218 : decode cL_law 218 = .ok (.iconst 1, 1) := by decide +kernel
theorem dL_law_219 : decode cL_law 219 = .ok (.iadd, 1) := by decide +kernel
theorem dL_law_220 : decode cL_law 220 = .ok (.iaload, 1) := by decide +kernel
theorem dL_law_221 : decode cL_law 221 = .ok (.invokevirtual 35, 3) := by decide +kernel
theorem dL_law_224 : decode cL_law 224 = .ok (.if_icmp .eq 415, 3) := by decide +kernel
theorem dL_law_227 : decode cL_law 227 = .ok (.iconst 0, 1) := by decide +kernel
theorem dL_law_228 : decode cL_law 228 = .ok (.ireturn, 1) := by decide +kernel
theorem dL_law_229 : decode cL_law 229 = .ok (.aload_n 1, 1) := by decide +kernel
theorem dL_law_230 : decode cL_law 230 = .ok (.aload_n 0, 1) := by decide +kernel
theorem dL_law_231 : decode cL_law 231 = .ok (.iload_n 3, 1) := by decide +kernel
theorem dL_law_232 : decode cL_law 232 = .ok (.iconst 1, 1) := by decide +kernel
theorem dL_law_233 : decode cL_law 233 = .ok (.iadd, 1) := by decide +kernel
theorem dL_law_234 : decode cL_law 234 = .ok (.iaload, 1) := by decide +kernel
theorem dL_law_235 : decode cL_law 235 = .ok (.invokevirtual 36, 3) := by decide +kernel
theorem dL_law_238 : decode cL_law 238 = .ok (.aload_n 2, 1) := by decide +kernel
theorem dL_law_239 : decode cL_law 239 = .ok (.aload_n 0, 1) := by decide +kernel
theorem dL_law_240 : decode cL_law 240 = .ok (.iload_n 3, 1) := by decide +kernel
theorem dL_law_241 : decode cL_law 241 = .ok (.iconst 1, 1) := by decide +kernel
theorem dL_law_242 : decode cL_law 242 = .ok (.iadd, 1) := by decide +kernel
theorem dL_law_243 : decode cL_law 243 = .ok (.iaload, 1) := by decide +kernel
theorem dL_law_244 : decode cL_law 244 = .ok (.invokevirtual 39, 3) := by decide +kernel
theorem dL_law_247 : decode cL_law 247 = .ok (.if_icmp .eq 392, 3) := by decide +kernel
theorem dL_law_250 : decode cL_law 250 = .ok (.iconst 0, 1) := by decide +kernel
theorem dL_law_251 : decode cL_law 251 = .ok (.ireturn, 1) := by decide +kernel
theorem dL_law_252 : decode cL_law 252 = .ok (.aload_n 1, 1) := by decide +kernel
theorem dL_law_253 : decode cL_law 253 = .ok (.invokevirtual 40, 3) := by decide +kernel
theorem dL_law_256 : decode cL_law 256 = .ok (.aload_n 2, 1) := by decide +kernel
theorem dL_law_257 : decode cL_law 257 = .ok (.invokevirtual 43, 3) := by decide +kernel
theorem dL_law_260 : decode cL_law 260 = .ok (.if_icmp .eq 379, 3) := by decide +kernel
theorem dL_law_263 : decode cL_law 263 = .ok (.iconst 0, 1) := by decide +kernel
theorem dL_law_264 : decode cL_law 264 = .ok (.ireturn, 1) := by decide +kernel
theorem dL_law_265 : decode cL_law 265 = .ok (.aload_n 1, 1) := by decide +kernel
theorem dL_law_266 : decode cL_law 266 = .ok (.aload_n 0, 1) := by decide +kernel
theorem dL_law_267 : decode cL_law 267 = .ok (.iload_n 3, 1) := by decide +kernel
theorem dL_law_268 : decode cL_law 268 = .ok (.iconst 1, 1) := by decide +kernel
theorem dL_law_269 : decode cL_law 269 = .ok (.iadd, 1) := by decide +kernel
theorem dL_law_270 : decode cL_law 270 = .ok (.iaload, 1) := by decide +kernel
theorem dL_law_271 : decode cL_law 271 = .ok (.invokevirtual 44, 3) := by decide +kernel
theorem dL_law_274 : decode cL_law 274 = .ok (.aload_n 2, 1) := by decide +kernel
theorem dL_law_275 : decode cL_law 275 = .ok (.aload_n 0, 1) := by decide +kernel
theorem dL_law_276 : decode cL_law 276 = .ok (.iload_n 3, 1) := by decide +kernel
theorem dL_law_277 : decode cL_law 277 = .ok (.iconst 1, 1) := by decide +kernel
theorem dL_law_278 : decode cL_law 278 = .ok (.iadd, 1) := by decide +kernel
theorem dL_law_279 : decode cL_law 279 = .ok (.iaload, 1) := by decide +kernel
theorem dL_law_280 : decode cL_law 280 = .ok (.invokevirtual 47, 3) := by decide +kernel
theorem dL_law_283 : decode cL_law 283 = .ok (.if_icmp .eq 356, 3) := by decide +kernel
theorem dL_law_286 : decode cL_law 286 = .ok (.iconst 0, 1) := by decide +kernel
theorem dL_law_287 : decode cL_law 287 = .ok (.ireturn, 1) := by decide +kernel
theorem dL_law_288 : decode cL_law 288 = .ok (.aload_n 1, 1) := by decide +kernel
theorem dL_law_289 : decode cL_law 289 = .ok (.invokevirtual 48, 3) := by decide +kernel
theorem dL_law_292 : decode cL_law 292 = .ok (.aload_n 2, 1) := by decide +kernel
theorem dL_law_293 : decode cL_law 293 = .ok (.invokevirtual 51, 3) := by decide +kernel
theorem dL_law_296 : decode cL_law 296 = .ok (.if_icmp .eq 343, 3) := by decide +kernel
theorem dL_law_299 : decode cL_law 299 = .ok (.iconst 0, 1) := by decide +kernel
theorem dL_law_300 : decode cL_law 300 = .ok (.ireturn, 1) := by decide +kernel
theorem dL_law_301 : decode cL_law 301 = .ok (.aload_n 1, 1) := by decide +kernel
theorem dL_law_302 : decode cL_law 302 = .ok (.aload_n 0, 1) := by decide +kernel
theorem dL_law_303 : decode cL_law 303 = .ok (.iload_n 3, 1) := by decide +kernel
theorem dL_law_304 : decode cL_law 304 = .ok (.iconst 1, 1) := by decide +kernel
theorem dL_law_305 : decode cL_law 305 = .ok (.iadd, 1) := by decide +kernel
theorem dL_law_306 : decode cL_law 306 = .ok (.iaload, 1) := by decide +kernel
theorem dL_law_307 : decode cL_law 307 = .ok (.aload_n 0, 1) := by decide +kernel
theorem dL_law_308 : decode cL_law 308 = .ok (.iload_n 3, 1) := by decide +kernel
theorem dL_law_309 : decode cL_law 309 = .ok (.iconst 2, 1) := by decide +kernel
theorem dL_law_310 : decode cL_law 310 = .ok (.iadd, 1) := by decide +kernel
theorem dL_law_311 : decode cL_law 311 = .ok (.iaload, 1) := by decide +kernel
theorem dL_law_312 : decode cL_law 312 = .ok (.ifCond .eq 7, 3) := by decide +kernel
theorem dL_law_315 : decode cL_law 315 = .ok (.iconst 1, 1) := by decide +kernel
theorem dL_law_316 : decode cL_law 316 = .ok (.goto 4, 3) := by decide +kernel
theorem dL_law_319 : decode cL_law 319 = .ok (.iconst 0, 1) := by decide +kernel
theorem dL_law_320 : decode cL_law 320 = .ok (.aload_n 0, 1) := by decide +kernel
theorem dL_law_321 : decode cL_law 321 = .ok (.iload_n 3, 1) := by decide +kernel
theorem dL_law_322 : decode cL_law 322 = .ok (.iconst 3, 1) := by decide +kernel
theorem dL_law_323 : decode cL_law 323 = .ok (.iadd, 1) := by decide +kernel
theorem dL_law_324 : decode cL_law 324 = .ok (.iaload, 1) := by decide +kernel
theorem dL_law_325 : decode cL_law 325 = .ok (.aload_n 0, 1) := by decide +kernel
theorem dL_law_326 : decode cL_law 326 = .ok (.iload_n 3, 1) := by decide +kernel
theorem dL_law_327 : decode cL_law 327 = .ok (.iconst 4, 1) := by decide +kernel
theorem dL_law_328 : decode cL_law 328 = .ok (.iadd, 1) := by decide +kernel
theorem dL_law_329 : decode cL_law 329 = .ok (.iaload, 1) := by decide +kernel
theorem dL_law_330 : decode cL_law 330 = .ok (.invokevirtual 52, 3) := by decide +kernel
theorem dL_law_333 : decode cL_law 333 = .ok (.aload_n 2, 1) := by decide +kernel
theorem dL_law_334 : decode cL_law 334 = .ok (.aload_n 0, 1) := by decide +kernel
theorem dL_law_335 : decode cL_law 335 = .ok (.iload_n 3, 1) := by decide +kernel
theorem dL_law_336 : decode cL_law 336 = .ok (.iconst 1, 1) := by decide +kernel
theorem dL_law_337 : decode cL_law 337 = .ok (.iadd, 1) := by decide +kernel
theorem dL_law_338 : decode cL_law 338 = .ok (.iaload, 1) := by decide +kernel
theorem dL_law_339 : decode cL_law 339 = .ok (.aload_n 0, 1) := by decide +kernel
theorem dL_law_340 : decode cL_law 340 = .ok (.iload_n 3, 1) := by decide +kernel
theorem dL_law_341 : decode cL_law 341 = .ok (.iconst 2, 1) := by decide +kernel
theorem dL_law_342 : decode cL_law 342 = .ok (.iadd, 1) := by decide +kernel
theorem dL_law_343 : decode cL_law 343 = .ok (.iaload, 1) := by decide +kernel
theorem dL_law_344 : decode cL_law 344 = .ok (.ifCond .eq 7, 3) := by decide +kernel
theorem dL_law_347 : decode cL_law 347 = .ok (.iconst 1, 1) := by decide +kernel
theorem dL_law_348 : decode cL_law 348 = .ok (.goto 4, 3) := by decide +kernel
theorem dL_law_351 : decode cL_law 351 = .ok (.iconst 0, 1) := by decide +kernel
theorem dL_law_352 : decode cL_law 352 = .ok (.aload_n 0, 1) := by decide +kernel
theorem dL_law_353 : decode cL_law 353 = .ok (.iload_n 3, 1) := by decide +kernel
theorem dL_law_354 : decode cL_law 354 = .ok (.iconst 3, 1) := by decide +kernel
theorem dL_law_355 : decode cL_law 355 = .ok (.iadd, 1) := by decide +kernel
theorem dL_law_356 : decode cL_law 356 = .ok (.iaload, 1) := by decide +kernel
theorem dL_law_357 : decode cL_law 357 = .ok (.aload_n 0, 1) := by decide +kernel
theorem dL_law_358 : decode cL_law 358 = .ok (.iload_n 3, 1) := by decide +kernel
theorem dL_law_359 : decode cL_law 359 = .ok (.iconst 4, 1) := by decide +kernel
theorem dL_law_360 : decode cL_law 360 = .ok (.iadd, 1) := by decide +kernel
theorem dL_law_361 : decode cL_law 361 = .ok (.iaload, 1) := by decide +kernel
theorem dL_law_362 : decode cL_law 362 = .ok (.invokevirtual 56, 3) := by decide +kernel
theorem dL_law_365 : decode cL_law 365 = .ok (.if_icmp .eq 274, 3) := by decide +kernel
theorem dL_law_368 : decode cL_law 368 = .ok (.iconst 0, 1) := by decide +kernel
theorem dL_law_369 : decode cL_law 369 = .ok (.ireturn, 1) := by decide +kernel
theorem dL_law_370 : decode cL_law 370 = .ok (.aload_n 1, 1) := by decide +kernel
theorem dL_law_371 : decode cL_law 371 = .ok (.aload_n 0, 1) := by decide +kernel
theorem dL_law_372 : decode cL_law 372 = .ok (.iload_n 3, 1) := by decide +kernel
theorem dL_law_373 : decode cL_law 373 = .ok (.iconst 1, 1) := by decide +kernel
theorem dL_law_374 : decode cL_law 374 = .ok (.iadd, 1) := by decide +kernel
theorem dL_law_375 : decode cL_law 375 = .ok (.iaload, 1) := by decide +kernel
theorem dL_law_376 : decode cL_law 376 = .ok (.invokevirtual 57, 3) := by decide +kernel
theorem dL_law_379 : decode cL_law 379 = .ok (.aload_n 2, 1) := by decide +kernel
theorem dL_law_380 : decode cL_law 380 = .ok (.aload_n 0, 1) := by decide +kernel
theorem dL_law_381 : decode cL_law 381 = .ok (.iload_n 3, 1) := by decide +kernel
theorem dL_law_382 : decode cL_law 382 = .ok (.iconst 1, 1) := by decide +kernel
theorem dL_law_383 : decode cL_law 383 = .ok (.iadd, 1) := by decide +kernel
theorem dL_law_384 : decode cL_law 384 = .ok (.iaload, 1) := by decide +kernel
theorem dL_law_385 : decode cL_law 385 = .ok (.invokevirtual 60, 3) := by decide +kernel
theorem dL_law_388 : decode cL_law 388 = .ok (.if_icmp .eq 251, 3) := by decide +kernel
theorem dL_law_391 : decode cL_law 391 = .ok (.iconst 0, 1) := by decide +kernel
theorem dL_law_392 : decode cL_law 392 = .ok (.ireturn, 1) := by decide +kernel
theorem dL_law_393 : decode cL_law 393 = .ok (.aload_n 1, 1) := by decide +kernel
theorem dL_law_394 : decode cL_law 394 = .ok (.aload_n 0, 1) := by decide +kernel
theorem dL_law_395 : decode cL_law 395 = .ok (.iload_n 3, 1) := by decide +kernel
theorem dL_law_396 : decode cL_law 396 = .ok (.iconst 1, 1) := by decide +kernel
theorem dL_law_397 : decode cL_law 397 = .ok (.iadd, 1) := by decide +kernel
theorem dL_law_398 : decode cL_law 398 = .ok (.iaload, 1) := by decide +kernel
theorem dL_law_399 : decode cL_law 399 = .ok (.aload_n 0, 1) := by decide +kernel
theorem dL_law_400 : decode cL_law 400 = .ok (.iload_n 3, 1) := by decide +kernel
theorem dL_law_401 : decode cL_law 401 = .ok (.iconst 2, 1) := by decide +kernel
theorem dL_law_402 : decode cL_law 402 = .ok (.iadd, 1) := by decide +kernel
theorem dL_law_403 : decode cL_law 403 = .ok (.iaload, 1) := by decide +kernel
theorem dL_law_404 : decode cL_law 404 = .ok (.ifCond .eq 7, 3) := by decide +kernel
theorem dL_law_407 : decode cL_law 407 = .ok (.iconst 1, 1) := by decide +kernel
theorem dL_law_408 : decode cL_law 408 = .ok (.goto 4, 3) := by decide +kernel
theorem dL_law_411 : decode cL_law 411 = .ok (.iconst 0, 1) := by decide +kernel
theorem dL_law_412 : decode cL_law 412 = .ok (.aload_n 0, 1) := by decide +kernel
theorem dL_law_413 : decode cL_law 413 = .ok (.iload_n 3, 1) := by decide +kernel
theorem dL_law_414 : decode cL_law 414 = .ok (.iconst 3, 1) := by decide +kernel
theorem dL_law_415 : decode cL_law 415 = .ok (.iadd, 1) := by decide +kernel
theorem dL_law_416 : decode cL_law 416 = .ok (.iaload, 1) := by decide +kernel
theorem dL_law_417 : decode cL_law 417 = .ok (.aload_n 0, 1) := by decide +kernel
theorem dL_law_418 : decode cL_law 418 = .ok (.iload_n 3, 1) := by decide +kernel
theorem dL_law_419 : decode cL_law 419 = .ok (.iconst 4, 1) := by decide +kernel
theorem dL_law_420 : decode cL_law 420 = .ok (.iadd, 1) := by decide +kernel
theorem dL_law_421 : decode cL_law 421 = .ok (.iaload, 1) := by decide +kernel
theorem dL_law_422 : decode cL_law 422 = .ok (.ifCond .eq 7, 3) := by decide +kernel
theorem dL_law_425 : decode cL_law 425 = .ok (.iconst 1, 1) := by decide +kernel
theorem dL_law_426 : decode cL_law 426 = .ok (.goto 4, 3) := by decide +kernel
theorem dL_law_429 : decode cL_law 429 = .ok (.iconst 0, 1) := by decide +kernel
theorem dL_law_430 : decode cL_law 430 = .ok (.invokevirtual 61, 3) := by decide +kernel
theorem dL_law_433 : decode cL_law 433 = .ok (.aload_n 2, 1) := by decide +kernel
theorem dL_law_434 : decode cL_law 434 = .ok (.aload_n 0, 1) := by decide +kernel
theorem dL_law_435 : decode cL_law 435 = .ok (.iload_n 3, 1) := by decide +kernel
theorem dL_law_436 : decode cL_law 436 = .ok (.iconst 1, 1) := by decide +kernel
theorem dL_law_437 : decode cL_law 437 = .ok (.iadd, 1) := by decide +kernel
theorem dL_law_438 : decode cL_law 438 = .ok (.iaload, 1) := by decide +kernel
theorem dL_law_439 : decode cL_law 439 = .ok (.aload_n 0, 1) := by decide +kernel
theorem dL_law_440 : decode cL_law 440 = .ok (.iload_n 3, 1) := by decide +kernel
theorem dL_law_441 : decode cL_law 441 = .ok (.iconst 2, 1) := by decide +kernel
theorem dL_law_442 : decode cL_law 442 = .ok (.iadd, 1) := by decide +kernel
theorem dL_law_443 : decode cL_law 443 = .ok (.iaload, 1) := by decide +kernel
theorem dL_law_444 : decode cL_law 444 = .ok (.ifCond .eq 7, 3) := by decide +kernel
theorem dL_law_447 : decode cL_law 447 = .ok (.iconst 1, 1) := by decide +kernel
theorem dL_law_448 : decode cL_law 448 = .ok (.goto 4, 3) := by decide +kernel
theorem dL_law_451 : decode cL_law 451 = .ok (.iconst 0, 1) := by decide +kernel
theorem dL_law_452 : decode cL_law 452 = .ok (.aload_n 0, 1) := by decide +kernel
theorem dL_law_453 : decode cL_law 453 = .ok (.iload_n 3, 1) := by decide +kernel
theorem dL_law_454 : decode cL_law 454 = .ok (.iconst 3, 1) := by decide +kernel
theorem dL_law_455 : decode cL_law 455 = .ok (.iadd, 1) := by decide +kernel
theorem dL_law_456 : decode cL_law 456 = .ok (.iaload, 1) := by decide +kernel
theorem dL_law_457 : decode cL_law 457 = .ok (.aload_n 0, 1) := by decide +kernel
theorem dL_law_458 : decode cL_law 458 = .ok (.iload_n 3, 1) := by decide +kernel
theorem dL_law_459 : decode cL_law 459 = .ok (.iconst 4, 1) := by decide +kernel
theorem dL_law_460 : decode cL_law 460 = .ok (.iadd, 1) := by decide +kernel
theorem dL_law_461 : decode cL_law 461 = .ok (.iaload, 1) := by decide +kernel
theorem dL_law_462 : decode cL_law 462 = .ok (.ifCond .eq 7, 3) := by decide +kernel
theorem dL_law_465 : decode cL_law 465 = .ok (.iconst 1, 1) := by decide +kernel
theorem dL_law_466 : decode cL_law 466 = .ok (.goto 4, 3) := by decide +kernel
theorem dL_law_469 : decode cL_law 469 = .ok (.iconst 0, 1) := by decide +kernel
theorem dL_law_470 : decode cL_law 470 = .ok (.invokevirtual 65, 3) := by decide +kernel
theorem dL_law_473 : decode cL_law 473 = .ok (.if_icmp .eq 166, 3) := by decide +kernel
theorem dL_law_476 : decode cL_law 476 = .ok (.iconst 0, 1) := by decide +kernel
theorem dL_law_477 : decode cL_law 477 = .ok (.ireturn, 1) := by decide +kernel
theorem dL_law_478 : decode cL_law 478 = .ok (.aload_n 1, 1) := by decide +kernel
theorem dL_law_479 : decode cL_law 479 = .ok (.aload_n 0, 1) := by decide +kernel
theorem dL_law_480 : decode cL_law 480 = .ok (.iload_n 3, 1) := by decide +kernel
theorem dL_law_481 : decode cL_law 481 = .ok (.iconst 1, 1) := by decide +kernel
theorem dL_law_482 : decode cL_law 482 = .ok (.iadd, 1) := by decide +kernel
theorem dL_law_483 : decode cL_law 483 = .ok (.iaload, 1) := by decide +kernel
theorem dL_law_484 : decode cL_law 484 = .ok (.invokevirtual 66, 3) := by decide +kernel
theorem dL_law_487 : decode cL_law 487 = .ok (.aload_n 2, 1) := by decide +kernel
theorem dL_law_488 : decode cL_law 488 = .ok (.aload_n 0, 1) := by decide +kernel
theorem dL_law_489 : decode cL_law 489 = .ok (.iload_n 3, 1) := by decide +kernel
theorem dL_law_490 : decode cL_law 490 = .ok (.iconst 1, 1) := by decide +kernel
theorem dL_law_491 : decode cL_law 491 = .ok (.iadd, 1) := by decide +kernel
theorem dL_law_492 : decode cL_law 492 = .ok (.iaload, 1) := by decide +kernel
theorem dL_law_493 : decode cL_law 493 = .ok (.invokevirtual 69, 3) := by decide +kernel
theorem dL_law_496 : decode cL_law 496 = .ok (.if_icmp .eq 143, 3) := by decide +kernel
theorem dL_law_499 : decode cL_law 499 = .ok (.iconst 0, 1) := by decide +kernel
theorem dL_law_500 : decode cL_law 500 = .ok (.ireturn, 1) := by decide +kernel
theorem dL_law_501 : decode cL_law 501 = .ok (.aload_n 1, 1) := by decide +kernel
theorem dL_law_502 : decode cL_law 502 = .ok (.invokevirtual 70, 3) := by decide +kernel
theorem dL_law_505 : decode cL_law 505 = .ok (.aload_n 2, 1) := by decide +kernel
theorem dL_law_506 : decode cL_law 506 = .ok (.invokevirtual 73, 3) := by decide +kernel
theorem dL_law_509 : decode cL_law 509 = .ok (.if_icmp .eq 130, 3) := by decide +kernel
theorem dL_law_512 : decode cL_law 512 = .ok (.iconst 0, 1) := by decide +kernel
theorem dL_law_513 : decode cL_law 513 = .ok (.ireturn, 1) := by decide +kernel
theorem dL_law_514 : decode cL_law 514 = .ok (.aload_n 1, 1) := by decide +kernel
theorem dL_law_515 : decode cL_law 515 = .ok (.aload_n 0, 1) := by decide +kernel
theorem dL_law_516 : decode cL_law 516 = .ok (.iload_n 3, 1) := by decide +kernel
theorem dL_law_517 : decode cL_law 517 = .ok (.iconst 1, 1) := by decide +kernel
theorem dL_law_518 : decode cL_law 518 = .ok (.iadd, 1) := by decide +kernel
theorem dL_law_519 : decode cL_law 519 = .ok (.iaload, 1) := by decide +kernel
theorem dL_law_520 : decode cL_law 520 = .ok (.invokevirtual 74, 3) := by decide +kernel
theorem dL_law_523 : decode cL_law 523 = .ok (.aload_n 2, 1) := by decide +kernel
theorem dL_law_524 : decode cL_law 524 = .ok (.aload_n 0, 1) := by decide +kernel
theorem dL_law_525 : decode cL_law 525 = .ok (.iload_n 3, 1) := by decide +kernel
theorem dL_law_526 : decode cL_law 526 = .ok (.iconst 1, 1) := by decide +kernel
theorem dL_law_527 : decode cL_law 527 = .ok (.iadd, 1) := by decide +kernel
theorem dL_law_528 : decode cL_law 528 = .ok (.iaload, 1) := by decide +kernel
theorem dL_law_529 : decode cL_law 529 = .ok (.invokevirtual 77, 3) := by decide +kernel
theorem dL_law_532 : decode cL_law 532 = .ok (.if_icmp .eq 107, 3) := by decide +kernel
theorem dL_law_535 : decode cL_law 535 = .ok (.iconst 0, 1) := by decide +kernel
theorem dL_law_536 : decode cL_law 536 = .ok (.ireturn, 1) := by decide +kernel
theorem dL_law_537 : decode cL_law 537 = .ok (.aload_n 1, 1) := by decide +kernel
theorem dL_law_538 : decode cL_law 538 = .ok (.aload_n 0, 1) := by decide +kernel
theorem dL_law_539 : decode cL_law 539 = .ok (.iload_n 3, 1) := by decide +kernel
theorem dL_law_540 : decode cL_law 540 = .ok (.iconst 1, 1) := by decide +kernel
theorem dL_law_541 : decode cL_law 541 = .ok (.iadd, 1) := by decide +kernel
theorem dL_law_542 : decode cL_law 542 = .ok (.iaload, 1) := by decide +kernel
theorem dL_law_543 : decode cL_law 543 = .ok (.aload_n 0, 1) := by decide +kernel
theorem dL_law_544 : decode cL_law 544 = .ok (.iload_n 3, 1) := by decide +kernel
theorem dL_law_545 : decode cL_law 545 = .ok (.iconst 2, 1) := by decide +kernel
theorem dL_law_546 : decode cL_law 546 = .ok (.iadd, 1) := by decide +kernel
theorem dL_law_547 : decode cL_law 547 = .ok (.iaload, 1) := by decide +kernel
theorem dL_law_548 : decode cL_law 548 = .ok (.invokevirtual 78, 3) := by decide +kernel
theorem dL_law_551 : decode cL_law 551 = .ok (.aload_n 2, 1) := by decide +kernel
theorem dL_law_552 : decode cL_law 552 = .ok (.aload_n 0, 1) := by decide +kernel
theorem dL_law_553 : decode cL_law 553 = .ok (.iload_n 3, 1) := by decide +kernel
theorem dL_law_554 : decode cL_law 554 = .ok (.iconst 1, 1) := by decide +kernel
theorem dL_law_555 : decode cL_law 555 = .ok (.iadd, 1) := by decide +kernel
theorem dL_law_556 : decode cL_law 556 = .ok (.iaload, 1) := by decide +kernel
theorem dL_law_557 : decode cL_law 557 = .ok (.aload_n 0, 1) := by decide +kernel
theorem dL_law_558 : decode cL_law 558 = .ok (.iload_n 3, 1) := by decide +kernel
theorem dL_law_559 : decode cL_law 559 = .ok (.iconst 2, 1) := by decide +kernel
theorem dL_law_560 : decode cL_law 560 = .ok (.iadd, 1) := by decide +kernel
theorem dL_law_561 : decode cL_law 561 = .ok (.iaload, 1) := by decide +kernel
theorem dL_law_562 : decode cL_law 562 = .ok (.invokevirtual 81, 3) := by decide +kernel
theorem dL_law_565 : decode cL_law 565 = .ok (.if_icmp .eq 74, 3) := by decide +kernel
theorem dL_law_568 : decode cL_law 568 = .ok (.iconst 0, 1) := by decide +kernel
theorem dL_law_569 : decode cL_law 569 = .ok (.ireturn, 1) := by decide +kernel
theorem dL_law_570 : decode cL_law 570 = .ok (.aload_n 1, 1) := by decide +kernel
theorem dL_law_571 : decode cL_law 571 = .ok (.aload_n 0, 1) := by decide +kernel
theorem dL_law_572 : decode cL_law 572 = .ok (.iload_n 3, 1) := by decide +kernel
theorem dL_law_573 : decode cL_law 573 = .ok (.iconst 1, 1) := by decide +kernel
theorem dL_law_574 : decode cL_law 574 = .ok (.iadd, 1) := by decide +kernel
theorem dL_law_575 : decode cL_law 575 = .ok (.iaload, 1) := by decide +kernel
theorem dL_law_576 : decode cL_law 576 = .ok (.invokevirtual 82, 3) := by decide +kernel
theorem dL_law_579 : decode cL_law 579 = .ok (.aload_n 2, 1) := by decide +kernel
theorem dL_law_580 : decode cL_law 580 = .ok (.aload_n 0, 1) := by decide +kernel
theorem dL_law_581 : decode cL_law 581 = .ok (.iload_n 3, 1) := by decide +kernel
theorem dL_law_582 : decode cL_law 582 = .ok (.iconst 1, 1) := by decide +kernel
theorem dL_law_583 : decode cL_law 583 = .ok (.iadd, 1) := by decide +kernel
theorem dL_law_584 : decode cL_law 584 = .ok (.iaload, 1) := by decide +kernel
theorem dL_law_585 : decode cL_law 585 = .ok (.invokevirtual 85, 3) := by decide +kernel
theorem dL_law_588 : decode cL_law 588 = .ok (.if_icmp .eq 51, 3) := by decide +kernel
theorem dL_law_591 : decode cL_law 591 = .ok (.iconst 0, 1) := by decide +kernel
theorem dL_law_592 : decode cL_law 592 = .ok (.ireturn, 1) := by decide +kernel
theorem dL_law_593 : decode cL_law 593 = .ok (.aload_n 1, 1) := by decide +kernel
theorem dL_law_594 : decode cL_law 594 = .ok (.aload_n 0, 1) := by decide +kernel
theorem dL_law_595 : decode cL_law 595 = .ok (.iload_n 3, 1) := by decide +kernel
theorem dL_law_596 : decode cL_law 596 = .ok (.iconst 1, 1) := by decide +kernel
theorem dL_law_597 : decode cL_law 597 = .ok (.iadd, 1) := by decide +kernel
theorem dL_law_598 : decode cL_law 598 = .ok (.iaload, 1) := by decide +kernel
theorem dL_law_599 : decode cL_law 599 = .ok (.invokevirtual 86, 3) := by decide +kernel
theorem dL_law_602 : decode cL_law 602 = .ok (.aload_n 2, 1) := by decide +kernel
theorem dL_law_603 : decode cL_law 603 = .ok (.aload_n 0, 1) := by decide +kernel
theorem dL_law_604 : decode cL_law 604 = .ok (.iload_n 3, 1) := by decide +kernel
theorem dL_law_605 : decode cL_law 605 = .ok (.iconst 1, 1) := by decide +kernel
theorem dL_law_606 : decode cL_law 606 = .ok (.iadd, 1) := by decide +kernel
theorem dL_law_607 : decode cL_law 607 = .ok (.iaload, 1) := by decide +kernel
theorem dL_law_608 : decode cL_law 608 = .ok (.invokevirtual 89, 3) := by decide +kernel
theorem dL_law_611 : decode cL_law 611 = .ok (.if_icmp .eq 28, 3) := by decide +kernel
theorem dL_law_614 : decode cL_law 614 = .ok (.iconst 0, 1) := by decide +kernel
theorem dL_law_615 : decode cL_law 615 = .ok (.ireturn, 1) := by decide +kernel
theorem dL_law_616 : decode cL_law 616 = .ok (.aload_n 1, 1) := by decide +kernel
theorem dL_law_617 : decode cL_law 617 = .ok (.aload_n 0, 1) := by decide +kernel
theorem dL_law_618 : decode cL_law 618 = .ok (.iload_n 3, 1) := by decide +kernel
theorem dL_law_619 : decode cL_law 619 = .ok (.iconst 1, 1) := by decide +kernel
theorem dL_law_620 : decode cL_law 620 = .ok (.iadd, 1) := by decide +kernel
theorem dL_law_621 : decode cL_law 621 = .ok (.iaload, 1) := by decide +kernel
theorem dL_law_622 : decode cL_law 622 = .ok (.invokevirtual 90, 3) := by decide +kernel
theorem dL_law_625 : decode cL_law 625 = .ok (.aload_n 2, 1) := by decide +kernel
theorem dL_law_626 : decode cL_law 626 = .ok (.aload_n 0, 1) := by decide +kernel
theorem dL_law_627 : decode cL_law 627 = .ok (.iload_n 3, 1) := by decide +kernel
theorem dL_law_628 : decode cL_law 628 = .ok (.iconst 1, 1) := by decide +kernel
theorem dL_law_629 : decode cL_law 629 = .ok (.iadd, 1) := by decide +kernel
theorem dL_law_630 : decode cL_law 630 = .ok (.iaload, 1) := by decide +kernel
theorem dL_law_631 : decode cL_law 631 = .ok (.invokevirtual 93, 3) := by decide +kernel
theorem dL_law_634 : decode cL_law 634 = .ok (.if_icmp .eq 5, 3) := by decide +kernel
theorem dL_law_637 : decode cL_law 637 = .ok (.iconst 0, 1) := by decide +kernel
theorem dL_law_638 : decode cL_law 638 = .ok (.ireturn, 1) := by decide +kernel
theorem dL_law_639 : decode cL_law 639 = .ok (.iinc 3 5, 3) := by decide +kernel
end
section
theorem dL_law_642 : decode cL_law 642 = .ok (.goto (-624), 3) := by decide +kernel
theorem dL_law_645 : decode cL_law 645 = .ok (.iconst 1, 1) := by decide +kernel
theorem dL_law_646 : decode cL_law 646 = .ok (.ireturn, 1) := by decide +kernel
abbrev vwCl : List vw_C := [(RX0, TX0, 3), (RX1, TX1, 3), (RX2, TX2, 2), (RX3, TX3, 3), (RX4, TX4, 2), (RX5, TX5, 5), (RX6, TX6, 13)]
end
section
/-! ===== base: the nest links, the world in one word, contracts, rows over them ===== -/
def nwl : List Cond := [.methodLinkNest RX5 9 yX3_init RX5, .methodLinkNest RX5 18 yX0_init RX5, .methodLinkNest RX5 25 yX1_init RX5, .methodLinkNest RX3 22 yX5_endsTo RX5, .methodLinkNest RX3 38 yX5_sensorsOn RX5, .methodLinkNest RX3 26 yX5_isBelow RX5, .methodLinkNest RX0 47 yX5_cylindersOf RX5, .methodLinkNest RX0 22 yX5_isBelow RX5, .methodLinkNest RX2 18 yX5_isBelow RX5, .methodLinkNest RX2 40 yX5_has RX5, .methodLinkNest RX1 39 yX5_endsTo RX5, .methodLinkNest RX1 26 yX5_sensorsOn RX5, .methodLinkNest RX1 30 yX5_cylindersOf RX5, .methodLinkNest RX1 33 yX5_has RX5, .methodLinkNest RX1 36 yX5_cylinderOf RX5, .methodLinkNest RX1 22 yX5_isBelow RX5, .methodLinkNest RX4 34 yX5_isState RX5, .methodLinkNest RX4 45 yX5_has RX5]
def isMN (w : Cond) : Prop := ∃ (a : String) (i : Nat) (x : MethodName) (h : String), w = .methodLinkNest a i x h
theorem nwl_mn : ∀ w ∈ nwl, isMN w := by
  unfold nwl
  repeat' (first | (refine List.forall_mem_cons.mpr ⟨⟨_, _, _, _, rfl⟩, ?_⟩) | exact fun _ h => absurd h List.not_mem_nil)
def NW (U : State) : Prop := ∀ w ∈ nwl, va_Nw w U
theorem NW.warm {s U : State} (hW : s.WarmedH U.vm) (h : NW s) : NW U := fun w hw => by
  obtain ⟨a, i, x, q, rfl⟩ := nwl_mn w hw
  exact va_Nw.warmM hW (h _ hw)
theorem NW.calling {U : State} {g : JFrame} {mk : MethodId} {a : Array Value} (h : NW U) : NW (U.calling g mk a) := fun w hw => by
  obtain ⟨b, i, x, q, rfl⟩ := nwl_mn w hw
  exact va_Nw.same (u := U) rfl rfl (h _ hw)
abbrev KT (cI cZ : ClassId) : List (ClassId × FieldType) := [(cI, .int), (cZ, .boolean)]
def WD (D : va_G) (A : Nat → Prop) (H0 : Heap) (ws : va_W) (H : Heap) (locs : List Loc) : Prop := va_P D vwCl ws H ∧ va_D A ws ∧ va_S A H0 H locs
def cPre (D : va_G) (cI cZ : ClassId) (ws : va_W) (sz : Nat) (U : State) : Prop := U.heap.size = sz ∧ va_P D vwCl ws U.heap ∧ va_K D vwCl (KT cI cZ) U ∧ va_D (fun _ => True) ws ∧ NW U
def cB (D : va_G) (A : Nat → Prop) (w : va_W) (t : State) : Prop := va_P D vwCl w t.heap ∧ va_D A w
/-- a method's contract: an int (or boolean) comes back, no cell is made -/
def MI (l : Launch) (D : va_G) (cI cZ : ClassId) (y : MethodName) (ws : List Cond) (rm : Room) (av : List Value) (w0 : va_W) (post : Int32 → va_W → Prop) : Prop :=
  ∀ sz : Nat, Met l y ws rm (va_Pc av (cPre D cI cZ w0 sz)) (va_Qi post (cB D (va_A w0 sz)) (va_A w0 sz)) 0 0 (va_A w0 sz)
/-- nothing comes back; mc cells of ms slots are made -/
def MV (l : Launch) (D : va_G) (cI cZ : ClassId) (y : MethodName) (ws : List Cond) (rm : Room) (av : List Value) (w0 : va_W) (mc ms : Nat) (post : va_W → Prop) : Prop :=
  ∀ sz : Nat, Met l y ws rm (va_Pc av (cPre D cI cZ w0 sz)) (va_Qv post (cB D (va_A w0 sz)) (va_A w0 sz)) mc ms (va_A w0 sz)
def CX (p : Program) (s : State) (m : MethodId) (args : Array Value) (meth : Method) (c : Code) (cc : ByteArray) (nL : Nat) (Ts : List Cond) (own : String) (ret : Option FieldType) (D : va_G) (cI cZ : ClassId) (A : Nat → Prop) : Prop :=
  CallFix p m c cc nL s args Ts own ∧ meth.sig.returnType = ret ∧ meth.locks = false ∧ va_K D vwCl (KT cI cZ) s ∧ NW s ∧ (∀ q, s.heap.size ≤ q → A q)
theorem cPre_blind {D : va_G} {cI cZ : ClassId} {ws : va_W} {sz : Nat} {av : List Value} : FrameBlind (va_Pc av (cPre D cI cZ ws sz)) := fun a U g mk q => by
  obtain ⟨q0, q1, qP, qK, qD, qN⟩ := q
  exact ⟨q0, q1, qP, va_K.moved (u := U) (U := U.calling g mk a) (Vm.Alike.refl U.vm) qK, qD, qN.calling⟩
section B1
variable {l : Launch} {D : va_G} {cI cZ : ClassId} {y : MethodName} {ws ws' : List Cond} {rm : Room} {av : List Value} {w0 : va_W} {cc : ByteArray} {maxL : Nat} {ret : Option FieldType} {own : String}
theorem MI.of {post : Int32 → va_W → Prop} (hy : plainName y.cls = true) (hw : ws = Cond.code y cc maxL ret :: ws') (ho : y.cls = own) (hle : (lg_sl av).length ≤ maxL)
    (body : ∀ (p : Program) (e : Env) (s : State) (m : MethodId) (args : Array Value) (below : List Frame) (meth : Method) (c : Code) (A : Nat → Prop), CX p s m args meth c cc maxL ws own ret D cI cZ A → WD D A s.heap w0 s.heap [] → ∀ ls : Array Slot, lv_has ls maxL (lv_args 0 av) →
      W p l e rm s m args below meth c s.heap [] 0 0 (MQ below (va_Qi post (cB D A) A) args s 0 0 A) (F0 m 0 ls [])) : MI l D cI cZ y ws rm av w0 post := by
  intro sz
  refine Met.ofW (cc := cc) (maxL := maxL) (ret := ret) hy hw ?_
  intro p e s m args below meth c s₁ B hml hv
  obtain ⟨rfl, hsz, hP, hK, hD0, hN⟩ := hv
  subst hsz
  have hD := hD0.self (sz := s.heap.size)
  rw [lg_entry_eq]
  exact body p e s m _ below meth c _ ⟨⟨B.exec, B.bytes, hml, by rw [← ho]; exact findClass_of_methodNamed B.named, atoms_spec (ws := ws) B.pre⟩, B.returns, B.notSynchronized, hK, hN, fun q h => Or.inr h⟩ ⟨hP, hD, va_S.rf⟩ _ (lv_entry av hle)
theorem MV.of {mc ms : Nat} {post : va_W → Prop} (hy : plainName y.cls = true) (hw : ws = Cond.code y cc maxL ret :: ws') (ho : y.cls = own) (hle : (lg_sl av).length ≤ maxL)
    (body : ∀ (p : Program) (e : Env) (s : State) (m : MethodId) (args : Array Value) (below : List Frame) (meth : Method) (c : Code) (A : Nat → Prop), CX p s m args meth c cc maxL ws own ret D cI cZ A → meth.name = y.name → WD D A s.heap w0 s.heap [] → ∀ ls : Array Slot, lv_has ls maxL (lv_args 0 av) →
      W p l e rm s m args below meth c s.heap [] 0 0 (MQ below (va_Qv post (cB D A) A) args s mc ms A) (F0 m 0 ls [])) : MV l D cI cZ y ws rm av w0 mc ms post := by
  intro sz
  refine Met.ofW (cc := cc) (maxL := maxL) (ret := ret) hy hw ?_
  intro p e s m args below meth c s₁ B hml hv
  obtain ⟨rfl, hsz, hP, hK, hD0, hN⟩ := hv
  subst hsz
  have hD := hD0.self (sz := s.heap.size)
  rw [lg_entry_eq]
  exact body p e s m _ below meth c _ ⟨⟨B.exec, B.bytes, hml, by rw [← ho]; exact findClass_of_methodNamed B.named, atoms_spec (ws := ws) B.pre⟩, B.returns, B.notSynchronized, hK, hN, fun q h => Or.inr h⟩ (name_of_methodNamed B.named B.method).1 ⟨hP, hD, va_S.rf⟩ _ (lv_entry av hle)
end B1
/-- cells is of ws are now w -/
def setL : List Nat → va_W → va_W → va_W
  | i :: is, q :: w, ws => setL is w (ws.set i q)
  | _, _, ws => ws
theorem setL_at : ∀ (is : List Nat) (w ws : va_W) (k : Nat) (q : Nat × va_E), is.length = w.length → (setL is w ws)[k]? = some q → (k ∉ is ∧ ws[k]? = some q) ∨ q ∈ w
  | [], [], ws, k, q, _, h => Or.inl ⟨List.not_mem_nil, h⟩
  | [], _ :: _, _, _, _, hl, _ => by simp at hl
  | _ :: _, [], _, _, _, hl, _ => by simp at hl
  | i :: is, x :: w, ws, k, q, hl, h => by
    rcases setL_at is w (ws.set i x) k q (by simpa using hl) h with ⟨h1, h2⟩ | h1
    · by_cases hk : k = i
      · subst hk
        rw [List.getElem?_set] at h2
        simp only [if_true] at h2
        split at h2
        · exact Or.inr (by rw [← Option.some.inj h2]; exact List.mem_cons_self)
        · cases h2
      · rw [List.getElem?_set_ne (Ne.symm hk)] at h2
        exact Or.inl ⟨fun hm => (List.mem_cons.mp hm).elim hk h1, h2⟩
    · exact Or.inr (List.mem_cons_of_mem _ h1)
theorem setL_fst : ∀ (is : List Nat) (w ws : va_W), is.map (fun i => (ws[i]?).map Prod.fst) = w.map (fun q => some q.1) → ∀ k : Nat, ((setL is w ws)[k]?).map Prod.fst = (ws[k]?).map Prod.fst
  | [], [], ws, _, k => rfl
  | [], _ :: _, ws, _, k => rfl
  | _ :: _, [], ws, _, k => rfl
  | i :: is, x :: w, ws, h, k => by
    have h0 : (ws[i]?).map Prod.fst = some x.1 := by simpa using (List.cons.inj h).1
    have hx : ∀ j : Nat, ((ws.set i x)[j]?).map Prod.fst = (ws[j]?).map Prod.fst := by
      intro j
      by_cases hj : j = i
      · subst hj
        rw [h0, List.getElem?_set]
        simp only [if_true]
        split
        · rfl
        · rename_i hlt
          rw [List.getElem?_eq_none (by omega)] at h0
          cases h0
      · rw [List.getElem?_set_ne (Ne.symm hj)]
    have h2 : is.map (fun i' => ((ws.set i x)[i']?).map Prod.fst) = w.map (fun q => some q.1) := by
      have h3 := (List.cons.inj h).2
      rw [← h3]
      exact List.map_congr_left (fun j _ => hx j)
    exact (setL_fst is w (ws.set i x) h2 k).trans (hx k)
theorem map_fst_of {is : List Nat} {ws wc w : va_W} (hC : is.map (fun i => ws[i]?) = wc.map some) (hf : w.map Prod.fst = wc.map Prod.fst) : is.map (fun i => (ws[i]?).map Prod.fst) = w.map (fun q => some q.1) := by
  have h1 : (is.map (fun i => ws[i]?)).map (fun o => o.map Prod.fst) = (wc.map some).map (fun o => o.map Prod.fst) := by rw [hC]
  rw [List.map_map, List.map_map] at h1
  have h2 : (wc.map Prod.fst).map some = (w.map Prod.fst).map some := by rw [hf]
  rw [List.map_map, List.map_map] at h2
  exact h1.trans h2
/-- behind a call: the caller's cells at their places, the callee's as they came back -/
theorem WD.back {D : va_G} {A : Nat → Prop} {H0 H H1 : Heap} {locs locs1 : List Loc} {ws wc w : va_W} (h : WD D A H0 ws H locs) (is : List Nat) (hC : is.map (fun i => ws[i]?) = wc.map some) (hf : w.map Prod.fst = wc.map Prod.fst)
    (hk : ∀ q : Nat, q < H.size → ¬ va_A wc H.size q → H1[q]? = H[q]?) (hP1 : va_P D vwCl w H1) (hS : va_S A H0 H1 locs1) : WD D A H0 (setL is w ws) H1 locs1 := by
  obtain ⟨hP, hD, -⟩ := h
  have hlen : is.length = w.length := by
    have h1 := congrArg List.length hC
    have h2 := congrArg List.length hf
    simp at h1 h2
    omega
  have hfst := setL_fst is w ws (map_fst_of hC hf)
  have at0 : ∀ (k : Nat) (q : Nat × va_E), (setL is w ws)[k]? = some q → ∃ q0, ws[k]? = some q0 ∧ q0.1 = q.1 := by
    intro k q hq
    have h1 := hfst k
    rw [hq] at h1
    cases hw : ws[k]? with
    | none => rw [hw] at h1; cases h1
    | some q0 => rw [hw] at h1; exact ⟨q0, rfl, (Option.some.inj h1).symm⟩
  refine ⟨fun k q hq => ?_, ⟨fun i j x z hx hz hxz => ?_, fun k q hq => ?_⟩, hS⟩
  · rcases setL_at is w ws k q hlen hq with ⟨h1, h2⟩ | h1
    · refine (hP k q h2).kept (hk q.1 (hP k q h2).lt (fun hA => ?_))
      rcases hA with ⟨j, e, hj⟩ | hA
      · have h3 : (is.map (fun i => ws[i]?))[j]? = some (some (q.1, e)) := by rw [hC, List.getElem?_map, hj]; rfl
        rw [List.getElem?_map] at h3
        cases hi : is[j]? with
        | none => rw [hi] at h3; cases h3
        | some i =>
          rw [hi] at h3
          have h4 : ws[i]? = some (q.1, e) := Option.some.inj h3
          have h5 := hD.1 k i q (q.1, e) h2 h4 rfl
          subst h5
          exact h1 (List.mem_of_getElem? hi)
      · exact absurd (hP k q h2).lt (by omega)
    · obtain ⟨j, hj⟩ := List.getElem?_of_mem h1
      exact hP1 j q hj
  · obtain ⟨x0, hx0, ex⟩ := at0 i x hx
    obtain ⟨z0, hz0, ez⟩ := at0 j z hz
    exact hD.1 i j x0 z0 hx0 hz0 (by rw [ex, ez]; exact hxz)
  · obtain ⟨q0, h0, e0⟩ := at0 k q hq
    rw [← e0]
    exact hD.2 k q0 h0
section B2
variable {p : Program} {l : Launch} {e : Env} {R : Room} {s : State} {m : MethodId} {args : Array Value} {below : List Frame} {meth : Method} {c : Code} {H : Heap} {locs : List Loc} {cells slots : Nat} {Q : State → Prop}
variable {cc : ByteArray} {nL : Nat} {Ts : List Cond} {own : String} {ret : Option FieldType} {D : va_G} {cI cZ : ClassId} {A : Nat → Prop} {pc : Nat} {ls : Array Slot} {rest : List Value} {ws : va_W}
theorem cv_i {x y : Int32} (e' : x = y) (k : W p l e R s m args below meth c H locs cells slots Q (F0 m pc ls (.int y :: rest))) : W p l e R s m args below meth c H locs cells slots Q (F0 m pc ls (.int x :: rest)) := e' ▸ k
/-- a field that a method reads: its link, its class's words -/
def FF (args : Array Value) (s : State) (own : String) (Ts : List Cond) (index ci k : Nat) : Prop := ∃ q : vw_C, vwCl[ci]? = some q ∧ k < q.2.2 ∧ (∀ w ∈ u_ws q.1 q.2.1 q.2.2, w ∈ Ts) ∧ (Cond.fieldLink own index (q.2.1 k).1 (q.2.1 k).2.1 (q.2.1 k).2.2.1).before args s = true
theorem x_get (X : CX p s m args meth c cc nL Ts own ret D cI cZ A) (w : WD D A s.heap ws H locs) {index ci k : Nat} (F : FF args s own Ts index ci k) (q0 : Nat) {a : Nat} {fs : List Value} (he : ws[q0]? = some (a, .inr (ci, fs))) {v : Value} (hv : fs[k]? = some v) (hdg : decode cc pc = .ok (.getfield index, 3))
    (kk : W p l e R s m args below meth c H locs cells slots Q (F0 m (pc + 3) ls (v :: rest))) : W p l e R s m args below meth c H locs cells slots Q (F0 m pc ls (.ref a :: rest)) := by
  obtain ⟨⟨hx, hb, hml, hown, hts⟩, -, -, hK, -, -⟩ := X
  obtain ⟨⟨C, T, N⟩, hc, hk, hin, hl⟩ := F
  exact va_get (D := D) hx hb hts hin hown hK w.1 q0 he hc k hk hl (fun _ h => h) hv hdg kk
/-- an int field that a method writes -/
def FP (args : Array Value) (s : State) (own : String) (Ts : List Cond) (index ci k : Nat) : Prop := ∃ (q : vw_C) (ty : Nat → FieldType), vwCl[ci]? = some q ∧ k < q.2.2 ∧ (∀ w ∈ u_ws q.1 q.2.1 q.2.2, w ∈ Ts) ∧ (Cond.fieldLink own index (q.2.1 k).1 (q.2.1 k).2.1 (q.2.1 k).2.2.1).before args s = true ∧ (∀ k, k < q.2.2 → parseFieldDescriptor (q.2.1 k).2.2.1 = some (ty k)) ∧ (∀ a, a < q.2.2 → ∀ b, b < q.2.2 → a ≠ b → (q.2.1 a).2.1 ≠ (q.2.1 b).2.1) ∧ (q.2.1 k).2.2.2 = false ∧ parseFieldDescriptor (q.2.1 k).2.2.1 = some .int
theorem x_put (X : CX p s m args meth c cc nL Ts own ret D cI cZ A) (w : WD D A s.heap ws H locs) {index ci k : Nat} (F : FP args s own Ts index ci k) (q0 : Nat) {a : Nat} {fs : List Value} (he : ws[q0]? = some (a, .inr (ci, fs))) {v : Int32} (hl : k < fs.length) (hdg : decode cc pc = .ok (.putfield index, 3))
    (kk : ∀ (H1 : Heap) (locs1 : List Loc), WD D A s.heap (ws.set q0 (a, .inr (ci, fs.set k (.int v)))) H1 locs1 → W p l e R s m args below meth c H1 locs1 cells slots Q (F0 m (pc + 3) ls rest)) : W p l e R s m args below meth c H locs cells slots Q (F0 m pc ls (.int v :: .ref a :: rest)) := by
  obtain ⟨⟨hx, hb, hml, hown, hts⟩, -, -, hK, -, -⟩ := X
  obtain ⟨⟨C, T, N⟩, ty, hc, hk, hin, hli, hty, hnm, hfin, hd⟩ := F
  exact va_put (D := D) hx hb hts hin ty hty hnm hown hK w.1 w.2.1 w.2.2 q0 he hc k hk hli (fun _ h => h) hfin hd rfl rfl hl hdg (fun H1 locs1 a b c => kk H1 locs1 ⟨a, b, c⟩)
/-- rows of small numbers, of booleans -/
def iA (o : Nat → Nat) : Nat → Int32 := fun k => nI (o k)
def bI (b : Bool) : Int32 := if b then 1 else 0
def bA (o : Nat → Bool) : Nat → Int32 := fun k => bI (o k)
theorem iA_up (o : Nat → Nat) (k v : Nat) : upd (iA o) k (nI v) = iA (va_up o k v) := by
  funext j
  unfold upd iA va_up
  split <;> rfl
/-- numbers from -1 on -/
def mI (a : Nat) : Int32 := nI a - 1
def mA (o : Nat → Nat) : Nat → Int32 := fun k => mI (o k)
theorem mA_up (o : Nat → Nat) (k v : Nat) : upd (mA o) k (mI v) = mA (va_up o k v) := by
  funext j
  unfold upd mA va_up
  split <;> rfl
theorem bA_up (o : Nat → Bool) (k : Nat) (v : Bool) : upd (bA o) k (bI v) = bA (va_up o k v) := by
  funext j
  unfold upd bA va_up
  split <;> rfl
theorem x_ald (X : CX p s m args meth c cc nL Ts own ret D cI cZ A) (w : WD D A s.heap ws H locs) (q0 : Nat) {a n : Nat} {f : Nat → Int32} (he : ws[q0]? = some (a, .inl (cI, n, .inl f))) {k : Nat} (hk : k < n) (hn : n < 2 ^ 31) (hdg : decode cc pc = .ok (.iaload, 1))
    (kk : W p l e R s m args below meth c H locs cells slots Q (F0 m (pc + 1) ls (.int (f k) :: rest))) : W p l e R s m args below meth c H locs cells slots Q (F0 m pc ls (.int (nI k) :: .ref a :: rest)) := by
  obtain ⟨⟨hx, hb, hml, hown, hts⟩, -, -, hK, -, -⟩ := X
  refine va_iald (D := D) hx hb hK w.1 q0 0 he rfl (vp_in_nI hk hn) hdg ?_
  rw [nI_clamp (by omega)]
  exact kk
theorem x_aldN (X : CX p s m args meth c cc nL Ts own ret D cI cZ A) (w : WD D A s.heap ws H locs) (q0 : Nat) {a n : Nat} {o : Nat → Nat} (he : ws[q0]? = some (a, .inl (cI, n, .inl (iA o)))) {k : Nat} (hk : k < n) (hn : n < 2 ^ 31) (hdg : decode cc pc = .ok (.iaload, 1))
    (kk : W p l e R s m args below meth c H locs cells slots Q (F0 m (pc + 1) ls (.int (nI (o k)) :: rest))) : W p l e R s m args below meth c H locs cells slots Q (F0 m pc ls (.int (nI k) :: .ref a :: rest)) := x_ald X w q0 he hk hn hdg kk
theorem x_aldM (X : CX p s m args meth c cc nL Ts own ret D cI cZ A) (w : WD D A s.heap ws H locs) (q0 : Nat) {a n : Nat} {o : Nat → Nat} (he : ws[q0]? = some (a, .inl (cI, n, .inl (mA o)))) {k : Nat} (hk : k < n) (hn : n < 2 ^ 31) (hdg : decode cc pc = .ok (.iaload, 1))
    (kk : W p l e R s m args below meth c H locs cells slots Q (F0 m (pc + 1) ls (.int (mI (o k)) :: rest))) : W p l e R s m args below meth c H locs cells slots Q (F0 m pc ls (.int (nI k) :: .ref a :: rest)) := x_ald X w q0 he hk hn hdg kk
theorem x_aldB (X : CX p s m args meth c cc nL Ts own ret D cI cZ A) (w : WD D A s.heap ws H locs) (q0 : Nat) {a n : Nat} {o : Nat → Bool} (he : ws[q0]? = some (a, .inl (cZ, n, .inl (bA o)))) {k : Nat} (hk : k < n) (hn : n < 2 ^ 31) (hdg : decode cc pc = .ok (.baload, 1))
    (kk : W p l e R s m args below meth c H locs cells slots Q (F0 m (pc + 1) ls (.int (bI (o k)) :: rest))) : W p l e R s m args below meth c H locs cells slots Q (F0 m pc ls (.int (nI k) :: .ref a :: rest)) := by
  obtain ⟨⟨hx, hb, hml, hown, hts⟩, -, -, hK, -, -⟩ := X
  refine va_zald (D := D) hx hb hK w.1 q0 1 he rfl (vp_in_nI hk hn) hdg ?_
  rw [nI_clamp (by omega)]
  exact kk
theorem x_ast (X : CX p s m args meth c cc nL Ts own ret D cI cZ A) (w : WD D A s.heap ws H locs) (q0 : Nat) {a n : Nat} {f : Nat → Int32} (he : ws[q0]? = some (a, .inl (cI, n, .inl f))) {k : Nat} {x : Int32} (hk : k < n) (hn : n < 2 ^ 31) (hdg : decode cc pc = .ok (.iastore, 1))
    (kk : ∀ (H1 : Heap) (locs1 : List Loc), WD D A s.heap (ws.set q0 (a, .inl (cI, n, .inl (upd f k x)))) H1 locs1 → W p l e R s m args below meth c H1 locs1 cells slots Q (F0 m (pc + 1) ls rest)) : W p l e R s m args below meth c H locs cells slots Q (F0 m pc ls (.int x :: .int (nI k) :: .ref a :: rest)) := by
  obtain ⟨⟨hx, hb, hml, hown, hts⟩, -, -, hK, -, -⟩ := X
  refine va_iast (D := D) hx hb hK w.1 w.2.1 w.2.2 q0 0 he rfl (vp_in_nI hk hn) hdg ?_
  rw [nI_clamp (by omega)]
  exact fun H1 locs1 a b c => kk H1 locs1 ⟨a, b, c⟩
theorem x_astN (X : CX p s m args meth c cc nL Ts own ret D cI cZ A) (w : WD D A s.heap ws H locs) (q0 : Nat) {a n : Nat} {o : Nat → Nat} (he : ws[q0]? = some (a, .inl (cI, n, .inl (iA o)))) {k x : Nat} (hk : k < n) (hn : n < 2 ^ 31) (hdg : decode cc pc = .ok (.iastore, 1))
    (kk : ∀ (H1 : Heap) (locs1 : List Loc), WD D A s.heap (ws.set q0 (a, .inl (cI, n, .inl (iA (va_up o k x))))) H1 locs1 → W p l e R s m args below meth c H1 locs1 cells slots Q (F0 m (pc + 1) ls rest)) : W p l e R s m args below meth c H locs cells slots Q (F0 m pc ls (.int (nI x) :: .int (nI k) :: .ref a :: rest)) := by
  refine x_ast X w q0 he hk hn hdg ?_
  rw [iA_up]
  exact kk
theorem x_astM (X : CX p s m args meth c cc nL Ts own ret D cI cZ A) (w : WD D A s.heap ws H locs) (q0 : Nat) {a n : Nat} {o : Nat → Nat} (he : ws[q0]? = some (a, .inl (cI, n, .inl (mA o)))) {k x : Nat} (hk : k < n) (hn : n < 2 ^ 31) (hdg : decode cc pc = .ok (.iastore, 1))
    (kk : ∀ (H1 : Heap) (locs1 : List Loc), WD D A s.heap (ws.set q0 (a, .inl (cI, n, .inl (mA (va_up o k x))))) H1 locs1 → W p l e R s m args below meth c H1 locs1 cells slots Q (F0 m (pc + 1) ls rest)) : W p l e R s m args below meth c H locs cells slots Q (F0 m pc ls (.int (mI x) :: .int (nI k) :: .ref a :: rest)) := by
  refine x_ast X w q0 he hk hn hdg ?_
  rw [mA_up]
  exact kk
theorem x_astB (X : CX p s m args meth c cc nL Ts own ret D cI cZ A) (w : WD D A s.heap ws H locs) (q0 : Nat) {a n : Nat} {o : Nat → Bool} (he : ws[q0]? = some (a, .inl (cZ, n, .inl (bA o)))) {k : Nat} {x : Bool} (hk : k < n) (hn : n < 2 ^ 31) (hdg : decode cc pc = .ok (.bastore, 1))
    (kk : ∀ (H1 : Heap) (locs1 : List Loc), WD D A s.heap (ws.set q0 (a, .inl (cZ, n, .inl (bA (va_up o k x))))) H1 locs1 → W p l e R s m args below meth c H1 locs1 cells slots Q (F0 m (pc + 1) ls rest)) : W p l e R s m args below meth c H locs cells slots Q (F0 m pc ls (.int (bI x) :: .int (nI k) :: .ref a :: rest)) := by
  obtain ⟨⟨hx, hb, hml, hown, hts⟩, -, -, hK, -, -⟩ := X
  refine va_zast (D := D) hx hb hK w.1 w.2.1 w.2.2 q0 1 he rfl (vp_in_nI hk hn) hdg ?_
  rw [nI_clamp (by omega), show vp_nar .boolean (bI x) = bI x by cases x <;> rfl, bA_up]
  exact fun H1 locs1 a b c => kk H1 locs1 ⟨a, b, c⟩
theorem x_alen (X : CX p s m args meth c cc nL Ts own ret D cI cZ A) (w : WD D A s.heap ws H locs) (q0 : Nat) {a n : Nat} {f : Nat → Int32} (he : ws[q0]? = some (a, .inl (cI, n, .inl f))) (hdg : decode cc pc = .ok (.arraylength, 1))
    (kk : W p l e R s m args below meth c H locs cells slots Q (F0 m (pc + 1) ls (.int (nI n) :: rest))) : W p l e R s m args below meth c H locs cells slots Q (F0 m pc ls (.ref a :: rest)) := by
  obtain ⟨⟨hx, hb, hml, hown, hts⟩, -, -, hK, -, -⟩ := X
  exact va_alen (D := D) hx hb hK w.1 q0 0 he rfl rfl hdg kk
theorem x_iret {post : Int32 → va_W → Prop} {v : Int32} (X : CX p s m args meth c cc nL Ts own (some .int) D cI cZ A) (w : WD D A s.heap ws H locs) (hp : post v ws) (hdg : decode cc pc = .ok (.ireturn, 1)) :
    W p l e R s m args below meth c H locs 0 0 (MQ below (va_Qi post (cB D A) A) args s 0 0 A) (F0 m pc ls [.int v]) := by
  obtain ⟨⟨hx, hb, hml, hown, hts⟩, hr, hlk, hK, -, -⟩ := X
  exact W.iret hx hb hr (fun t ht hW => ⟨⟨v, ws, rfl, hp, by rw [cB, ht]; exact ⟨w.1, w.2.1⟩⟩, w.2.2.F ht⟩) w.2.2.2.2 hdg hlk
theorem x_zret {post : Int32 → va_W → Prop} {b : Bool} (X : CX p s m args meth c cc nL Ts own (some .boolean) D cI cZ A) (w : WD D A s.heap ws H locs) (hp : post (bI b) ws) (hdg : decode cc pc = .ok (.ireturn, 1)) :
    W p l e R s m args below meth c H locs 0 0 (MQ below (va_Qi post (cB D A) A) args s 0 0 A) (F0 m pc ls [.int (bI b)]) := by
  obtain ⟨⟨hx, hb, hml, hown, hts⟩, hr, hlk, hK, -, -⟩ := X
  exact W.zret hx hb hr (by cases b <;> rfl) (fun t ht hW => ⟨⟨bI b, ws, rfl, hp, by rw [cB, ht]; exact ⟨w.1, w.2.1⟩⟩, w.2.2.F ht⟩) w.2.2.2.2 hdg hlk
theorem x_vret {post : va_W → Prop} {mc ms : Nat} (X : CX p s m args meth c cc nL Ts own none D cI cZ A) (w : WD D A s.heap ws H locs) (hp : post ws) (hdg : decode cc pc = .ok (.return_, 1)) :
    W p l e R s m args below meth c H locs mc ms (MQ below (va_Qv post (cB D A) A) args s mc ms A) (F0 m pc ls []) := by
  obtain ⟨⟨hx, hb, hml, hown, hts⟩, hr, hlk, hK, -, -⟩ := X
  exact W.vret hx hb hr (fun t ht hW => ⟨⟨ws, rfl, hp, by rw [cB, ht]; exact ⟨w.1, w.2.1⟩⟩, w.2.2.F ht⟩) w.2.2.2.2 hdg hlk
theorem WD.sub' {wc : va_W} (w : WD D A s.heap ws H locs) (is : List Nat) (hn : va_nd is = true) (hC : is.map (fun i => ws[i]?) = wc.map some) : va_P D vwCl wc H ∧ va_D (fun _ => True) wc := by
  refine ⟨fun k q hk => ?_, (w.2.1.sub is hn hC).weaken (fun _ _ _ _ => trivial)⟩
  have h1 : (is.map (fun i => ws[i]?))[k]? = some (some q) := by rw [hC, List.getElem?_map, hk]; rfl
  rw [List.getElem?_map] at h1
  cases hi : is[k]? with
  | none => rw [hi] at h1; cases h1
  | some i => rw [hi] at h1; exact w.1 i q (Option.some.inj h1)
theorem cPre_at {wc : va_W} (X : CX p s m args meth c cc nL Ts own ret D cI cZ A) (w : WD D A s.heap ws H locs) (is : List Nat) (hn : va_nd is = true) (hC : is.map (fun i => ws[i]?) = wc.map some) (U : State) (hU : U.heap = H) (hW : s.WarmedH U.vm) : cPre D cI cZ wc H.size U := by
  obtain ⟨-, -, -, hK, hN, -⟩ := X
  obtain ⟨h1, h2⟩ := w.sub' is hn hC
  exact ⟨by rw [hU], by rw [hU]; exact h1, hK.moved hW.alike, h2, hN.warm hW⟩
variable {y : MethodName} {bytes : ByteArray} {maxL n index : Nat} {rty : Option FieldType} {wsy : List Cond} {rm : Room} {wc : va_W} {b : Nat} {As : List Value}
/-- a call of a method of an object -/
theorem x_callV {post : Int32 → va_W → Prop} {C : String} {ci : Nat} {fs : List Value} {q : vw_C} (X : CX p s m args meth c cc nL Ts own ret D cI cZ A) (w : WD D A s.heap ws H locs) (hl : ls.size = nL) (hM : MI l D cI cZ y wsy rm (.ref b :: As) wc post) (cw : CallW R s args own C index y bytes maxL rty wsy rm 0 0 n)
    (is : List Nat) (hn : va_nd is = true) (hC : is.map (fun i => ws[i]?) = wc.map some) (q0 : Nat) (hq0 : wc[q0]? = some (b, .inr (ci, fs))) (hci : vwCl[ci]? = some q) (hCq : q.1 = C) (hlen : As.length = n) (hroom : (rest.map fun v => v.category).sum ≤ 8) (hdg : decode cc pc = .ok (.invokevirtual index, 3)) (hcs : cells ≤ R.cells ∧ slots ≤ R.slots)
    (kk : ∀ (r : Int32) (w' : va_W) (H1 : Heap) (locs1 : List Loc), post r w' → (w'.map Prod.fst = wc.map Prod.fst → WD D A s.heap (setL is w' ws) H1 locs1) → W p l e R s m args below meth c H1 locs1 cells slots Q (F0 m (pc + 3) ls (.int r :: rest))) :
    W p l e R s m args below meth c H locs cells slots Q (F0 m pc ls (As.reverse ++ .ref b :: rest)) := by
  obtain ⟨hF, -, -, hK, hN, hA⟩ := id X
  have hFc := va_free (wc := wc) w.2.1 w.2.2 hA is hC
  obtain ⟨hPc, hDc⟩ := w.sub' is hn hC
  subst hCq
  refine va_calli (va_runV (As := As) (rest := rest) hF (hM H.size) cw ⟨cPre_blind, va_recv hK hPc hci hq0, fun U hU hW => ⟨rfl, cPre_at X w is hn hC U hU hW⟩⟩ rfl hlen hl rfl (lv_room hroom) hdg hcs) w.2.2 (fun q _ h => hFc q h) hFc (fun r u t H1 locs1 ht hvm hp hB hz1 hk1 hS => ?_)
  exact kk r u H1 locs1 hp (fun hf => w.back is hC hf hk1 (by rw [← ht]; exact hB.1) hS)
theorem x_callVv {post : va_W → Prop} {C : String} {ci : Nat} {fs : List Value} {q : vw_C} (X : CX p s m args meth c cc nL Ts own ret D cI cZ A) (w : WD D A s.heap ws H locs) (hl : ls.size = nL) (hM : MV l D cI cZ y wsy rm (.ref b :: As) wc 0 0 post) (cw : CallW R s args own C index y bytes maxL rty wsy rm 0 0 n)
    (is : List Nat) (hn : va_nd is = true) (hC : is.map (fun i => ws[i]?) = wc.map some) (q0 : Nat) (hq0 : wc[q0]? = some (b, .inr (ci, fs))) (hci : vwCl[ci]? = some q) (hCq : q.1 = C) (hlen : As.length = n) (hroom : (rest.map fun v => v.category).sum ≤ 8) (hdg : decode cc pc = .ok (.invokevirtual index, 3)) (hcs : cells ≤ R.cells ∧ slots ≤ R.slots)
    (kk : ∀ (w' : va_W) (H1 : Heap) (locs1 : List Loc), post w' → (w'.map Prod.fst = wc.map Prod.fst → WD D A s.heap (setL is w' ws) H1 locs1) → W p l e R s m args below meth c H1 locs1 cells slots Q (F0 m (pc + 3) ls rest)) :
    W p l e R s m args below meth c H locs cells slots Q (F0 m pc ls (As.reverse ++ .ref b :: rest)) := by
  obtain ⟨hF, -, -, hK, hN, hA⟩ := id X
  have hFc := va_free (wc := wc) w.2.1 w.2.2 hA is hC
  obtain ⟨hPc, hDc⟩ := w.sub' is hn hC
  subst hCq
  refine va_callv (va_runV (As := As) (rest := rest) hF (hM H.size) cw ⟨cPre_blind, va_recv hK hPc hci hq0, fun U hU hW => ⟨rfl, cPre_at X w is hn hC U hU hW⟩⟩ rfl hlen hl rfl (lv_room hroom) hdg hcs) w.2.2 (fun q _ h => hFc q h) hFc (fun u t H1 locs1 ht hvm hp hB hz1 hk1 hS => ?_)
  exact kk u H1 locs1 hp (fun hf => w.back is hC hf hk1 (by rw [← ht]; exact hB.1) hS)
/-- a call of a static method of the own class, or of a nest mate's -/
theorem x_callS {post : Int32 → va_W → Prop} (X : CX p s m args meth c cc nL Ts own ret D cI cZ A) (w : WD D A s.heap ws H locs) (hl : ls.size = nL) (hM : MI l D cI cZ y wsy rm As wc post) (cw : CallB R s args own index y bytes maxL rty wsy rm 0 0 n ∧ (Cond.static y).before args s = true)
    (is : List Nat) (hn : va_nd is = true) (hC : is.map (fun i => ws[i]?) = wc.map some) (hlen : As.length = n) (hroom : (rest.map fun v => v.category).sum ≤ 8) (hdg : decode cc pc = .ok (.invokestatic index, 3)) (hcs : cells ≤ R.cells ∧ slots ≤ R.slots)
    (kk : ∀ (r : Int32) (w' : va_W) (H1 : Heap) (locs1 : List Loc), post r w' → (w'.map Prod.fst = wc.map Prod.fst → WD D A s.heap (setL is w' ws) H1 locs1) → W p l e R s m args below meth c H1 locs1 cells slots Q (F0 m (pc + 3) ls (.int r :: rest))) :
    W p l e R s m args below meth c H locs cells slots Q (F0 m pc ls (As.reverse ++ rest)) := by
  obtain ⟨hF, -, -, hK, hN, hA⟩ := id X
  have hFc := va_free (wc := wc) w.2.1 w.2.2 hA is hC
  refine va_calli (va_runS (As := As) (rest := rest) hF (hM H.size) cw ⟨cPre_blind, fun U hU hW => ⟨rfl, cPre_at X w is hn hC U hU hW⟩⟩ rfl hlen hl rfl (lv_room hroom) hdg hcs) w.2.2 (fun q _ h => hFc q h) hFc (fun r u t H1 locs1 ht hvm hp hB hz1 hk1 hS => ?_)
  exact kk r u H1 locs1 hp (fun hf => w.back is hC hf hk1 (by rw [← ht]; exact hB.1) hS)
theorem x_callN {post : Int32 → va_W → Prop} {host : String} {wt : List Cond} (X : CX p s m args meth c cc nL Ts own ret D cI cZ A) (w : WD D A s.heap ws H locs) (hl : ls.size = nL) (hM : MI l D cI cZ y wsy rm As wc post) (hG : GoodIn Ts wsy) (hw : wsy = Cond.code y bytes maxL rty :: wt) (hrc : rm.cells = 0) (hrs : rm.slots = 0) (hnl : Cond.methodLinkNest own index y host ∈ nwl) (hini : Cond.initialized y.cls ∈ Ts) (hst : Cond.static y ∈ Ts)
    (hd : y.cls ≠ "java/lang/invoke/MethodHandle" ∧ y.cls ≠ "java/lang/invoke/VarHandle" ∧ (parseMethodDescriptor y.desc).map (fun d => d.parameters.length) = some n) (hR : rm.frames + 1 ≤ R.frames ∧ 8 + (maxL + 11) + rm.locals ≤ R.locals)
    (is : List Nat) (hn : va_nd is = true) (hC : is.map (fun i => ws[i]?) = wc.map some) (hlen : As.length = n) (hroom : (rest.map fun v => v.category).sum ≤ 8) (hdg : decode cc pc = .ok (.invokestatic index, 3)) (hcs : cells ≤ R.cells ∧ slots ≤ R.slots)
    (kk : ∀ (r : Int32) (w' : va_W) (H1 : Heap) (locs1 : List Loc), post r w' → (w'.map Prod.fst = wc.map Prod.fst → WD D A s.heap (setL is w' ws) H1 locs1) → W p l e R s m args below meth c H1 locs1 cells slots Q (F0 m (pc + 3) ls (.int r :: rest))) :
    W p l e R s m args below meth c H locs cells slots Q (F0 m pc ls (As.reverse ++ rest)) := by
  obtain ⟨hF, -, -, hK, hN, hA⟩ := id X
  have hFc := va_free (wc := wc) w.2.1 w.2.2 hA is hC
  refine va_calli (va_runSN (As := As) (rest := rest) hF (hM H.size) ⟨va_cnB n hF.2.2.2.2 hG hw hrc hrs (hN _ hnl) (hF.2.2.2.2 _ hini) hd hR, hF.2.2.2.2 _ hst, trivial⟩ ⟨cPre_blind, fun U hU hW => ⟨rfl, cPre_at X w is hn hC U hU hW⟩⟩ rfl hlen hl rfl (lv_room hroom) hdg hcs) w.2.2 (fun q _ h => hFc q h) hFc (fun r u t H1 locs1 ht hvm hp hB hz1 hk1 hS => ?_)
  exact kk r u H1 locs1 hp (fun hf => w.back is hC hf hk1 (by rw [← ht]; exact hB.1) hS)
/-- a loop: by a measure -/
theorem wl {α : Type} (μ : α → Nat) (I : α → Prop) (wsf : α → va_W) (lvf : α → List (Nat × Value)) {H0 : Heap}
    (step : ∀ a, I a → ∀ (H : Heap) (locs : List Loc) (ls : Array Slot), WD D A H0 (wsf a) H locs → lv_has ls nL (lvf a) →
      (∀ b, μ b < μ a → I b → ∀ (H : Heap) (locs : List Loc) (ls : Array Slot), WD D A H0 (wsf b) H locs → lv_has ls nL (lvf b) → W p l e R s m args below meth c H locs cells slots Q (F0 m pc ls [])) →
      W p l e R s m args below meth c H locs cells slots Q (F0 m pc ls [])) (a : α) (ha : I a) (H : Heap) (locs : List Loc) (ls : Array Slot) (hw : WD D A H0 (wsf a) H locs) (hl : lv_has ls nL (lvf a)) : W p l e R s m args below meth c H locs cells slots Q (F0 m pc ls []) := by
  have key : ∀ (n : Nat) (a : α), μ a < n → I a → ∀ (H : Heap) (locs : List Loc) (ls : Array Slot), WD D A H0 (wsf a) H locs → lv_has ls nL (lvf a) → W p l e R s m args below meth c H locs cells slots Q (F0 m pc ls []) := by
    intro n
    induction n with
    | zero => intro a h; exact absurd h (Nat.not_lt_zero _)
    | succ n ih =>
      intro a h hI H locs ls hw hl
      exact step a hI H locs ls hw hl (fun b hb hIb H locs ls hw hl => ih b (by omega) hIb H locs ls hw hl)
  exact key (μ a + 1) a (Nat.lt_succ_self _) ha H locs ls hw hl
/-- a place where roads meet -/
theorem wj {α : Type} (pc' : Nat) (I : α → Prop) (wsf : α → va_W) (lvf : α → List (Nat × Value)) (stf : α → List Value) {H0 : Heap} {g : JFrame}
    (h1 : (∀ a, I a → ∀ (H : Heap) (locs : List Loc) (ls : Array Slot), WD D A H0 (wsf a) H locs → lv_has ls nL (lvf a) → W p l e R s m args below meth c H locs cells slots Q (F0 m pc' ls (stf a))) → W p l e R s m args below meth c H locs cells slots Q g)
    (h2 : ∀ a, I a → ∀ (H : Heap) (locs : List Loc) (ls : Array Slot), WD D A H0 (wsf a) H locs → lv_has ls nL (lvf a) → W p l e R s m args below meth c H locs cells slots Q (F0 m pc' ls (stf a))) : W p l e R s m args below meth c H locs cells slots Q g := h1 h2
end B2
end
section
/-! ===== numbers ===== -/
theorem q_ext {x y : Int32} (h : ∀ i, i < 32 → x.toBitVec.getLsbD i = y.toBitVec.getLsbD i) : x = y := Int32.toBitVec_inj.mp (BitVec.eq_of_getLsbD_eq (fun i hi => h i hi))
theorem q_bt (a i : Nat) (hi : i < 32) : (nI a).toBitVec.getLsbD i = a.testBit i := by
  show (BitVec.ofNat 32 a).getLsbD i = _
  rw [BitVec.getLsbD_ofNat]
  simp [hi]
theorem q_and (a b : Nat) : nI a &&& nI b = nI (a &&& b) := q_ext (fun i hi => by
  rw [Int32.toBitVec_and, BitVec.getLsbD_and, q_bt a i hi, q_bt b i hi, q_bt _ i hi, Nat.testBit_and])
theorem q_or (a b : Nat) : nI a ||| nI b = nI (a ||| b) := q_ext (fun i hi => by
  rw [Int32.toBitVec_or, BitVec.getLsbD_or, q_bt a i hi, q_bt b i hi, q_bt _ i hi, Nat.testBit_or])
theorem q_xor (a b : Nat) : nI a ^^^ nI b = nI (a ^^^ b) := q_ext (fun i hi => by
  rw [Int32.toBitVec_xor, BitVec.getLsbD_xor, q_bt a i hi, q_bt b i hi, q_bt _ i hi, Nat.testBit_xor])
/-- b without the bits of a -/
def anN (b a : Nat) : Nat := b ^^^ (b &&& a)
theorem anN_bit (b a i : Nat) : (anN b a).testBit i = (b.testBit i && !a.testBit i) := by
  unfold anN
  rw [Nat.testBit_xor, Nat.testBit_and]
  cases b.testBit i <;> cases a.testBit i <;> rfl
theorem q_m1 : ∀ i, i < 32 → (-1 : Int32).toBitVec.getLsbD i = true := by decide +kernel
theorem q_anR (b a : Nat) : nI b &&& (nI a ^^^ (-1)) = nI (anN b a) := q_ext (fun i hi => by
  rw [Int32.toBitVec_and, BitVec.getLsbD_and, Int32.toBitVec_xor, BitVec.getLsbD_xor, q_bt a i hi, q_bt b i hi, q_bt _ i hi, q_m1 i hi, anN_bit]
  cases b.testBit i <;> cases a.testBit i <;> rfl)
theorem q_anL (b a : Nat) : (nI a ^^^ (-1)) &&& nI b = nI (anN b a) := q_ext (fun i hi => by
  rw [Int32.toBitVec_and, BitVec.getLsbD_and, Int32.toBitVec_xor, BitVec.getLsbD_xor, q_bt a i hi, q_bt b i hi, q_bt _ i hi, q_m1 i hi, anN_bit]
  cases b.testBit i <;> cases a.testBit i <;> rfl)
theorem q_sl : ∀ n, n < 32 → ((nI n &&& 31).toBitVec.smod 32).toNat = n := by decide +kernel
theorem q_shl (a k : Nat) (hk : k < 32) : nI a <<< (nI k &&& 31) = nI (a <<< k) := q_ext (fun i hi => by
  rw [Int32.toBitVec_shiftLeft]
  show ((nI a).toBitVec <<< ((nI k &&& 31).toBitVec.smod 32).toNat).getLsbD i = _
  rw [q_sl k hk, BitVec.getLsbD_shiftLeft, q_bt _ i hi, Nat.testBit_shiftLeft]
  rcases Nat.lt_or_ge i k with h | h
  · simp [h, Nat.not_le.mpr h]
  · simp [hi, h, Nat.not_lt.mpr h, q_bt a (i - k) (by omega)])
theorem q_shr (a k : Nat) (ha : a < 2 ^ 31) (hk : k < 32) : nI a >>> (nI k &&& 31) = nI (a >>> k) := by
  rw [pk_shrN ha _ k (q_sl k hk), Nat.shiftRight_eq_div_pow]
theorem q_eq0 {a : Nat} (h : a < 2 ^ 31) : nI a = 0 ↔ a = 0 := nI_eq (b := 0) h (by decide)
theorem q_max {a b : Nat} (ha : a < 2 ^ 31) (hb : b < 2 ^ 31) : (if nI a < nI b then nI b else nI a) = nI (max a b) := by
  by_cases h : a < b
  · rw [if_pos ((nI_ltI ha hb).mpr h), Nat.max_eq_right (by omega)]
  · rw [if_neg (fun q => h ((nI_ltI ha hb).mp q)), Nat.max_eq_left (by omega)]
theorem q_min {a b : Nat} (ha : a < 2 ^ 31) (hb : b < 2 ^ 31) : (if nI b < nI a then nI b else nI a) = nI (min a b) := by
  by_cases h : b < a
  · rw [if_pos ((nI_ltI hb ha).mpr h), Nat.min_eq_right (by omega)]
  · rw [if_neg (fun q => h ((nI_ltI hb ha).mp q)), Nat.min_eq_left (by omega)]
theorem q_bN (b : Bool) : bI b = nI b.toNat := by cases b <;> rfl
theorem q_b0 {b : Bool} : bI b = 0 ↔ b = false := by cases b <;> decide
theorem q_b1 {b : Bool} : bI b = nI 1 ↔ b = true := by cases b <;> decide
theorem q_bb {a b : Bool} : bI a = bI b ↔ a = b := by cases a <;> cases b <;> decide
theorem q_bit1 (a k : Nat) : (a >>> k) &&& 1 = (a.testBit k).toNat := by
  rw [Nat.testBit, Nat.and_comm]
  rcases (show 1 &&& a >>> k = 0 ∨ 1 &&& a >>> k = 1 by have h : 1 &&& a >>> k ≤ 1 := Nat.and_le_left; omega) with h | h <;> rw [h] <;> rfl
theorem q_bit (a k : Nat) : nI (a >>> k) &&& nI 1 = bI (a.testBit k) := by rw [q_and, q_bit1, q_bN]
theorem q_dec {a : Nat} (h : 1 ≤ a) : nI a + Int32.ofInt (-1) = nI (a - 1) := by
  obtain ⟨b, rfl⟩ : ∃ b, a = b + 1 := ⟨a - 1, by omega⟩
  exact pk_m1 b
theorem q_nI {x : Int32} {n : Nat} (hn : n < 2 ^ 31) (h0 : ¬ x < 0) (h : ¬ nI n ≤ x) : ∃ j : Nat, j < n ∧ x = nI j := by
  rcases pk_ix x hn with q | q | q
  · exact absurd q h0
  · exact absurd q h
  · exact q
/-! ===== the first of n, a sum up to n ===== -/
def fsF (P : Nat → Bool) : Nat → Nat → Nat
  | 0, k => k
  | f + 1, k => if P k then k else fsF P f (k + 1)
def fs (P : Nat → Bool) (n : Nat) : Nat := fsF P n 0
theorem fsF_spec (P : Nat → Bool) : ∀ (f k : Nat), k ≤ fsF P f k ∧ fsF P f k ≤ k + f ∧ (∀ j, k ≤ j → j < fsF P f k → P j = false) ∧ (fsF P f k < k + f → P (fsF P f k) = true)
  | 0, k => ⟨Nat.le_refl _, Nat.le_refl _, fun j h1 h2 => absurd h2 (Nat.not_lt.mpr h1), fun h => absurd h (Nat.lt_irrefl _)⟩
  | f + 1, k => by
    by_cases h : P k = true
    · rw [show fsF P (f + 1) k = k by simp [fsF, h]]
      exact ⟨Nat.le_refl _, by omega, fun j h1 h2 => absurd h2 (Nat.not_lt.mpr h1), fun _ => h⟩
    · rw [show fsF P (f + 1) k = fsF P f (k + 1) by simp [fsF, h]]
      obtain ⟨a, b, c, d⟩ := fsF_spec P f (k + 1)
      refine ⟨by omega, by omega, fun j h1 h2 => ?_, fun h2 => d (by omega)⟩
      rcases Nat.lt_or_ge k j with q | q
      · exact c j q h2
      · rw [show j = k by omega]
        simpa using h
theorem fs_le (P : Nat → Bool) (n : Nat) : fs P n ≤ n := by
  have := (fsF_spec P n 0).2.1
  unfold fs
  omega
theorem fs_no {P : Nat → Bool} {n j : Nat} (h : j < fs P n) : P j = false := (fsF_spec P n 0).2.2.1 j (Nat.zero_le _) h
theorem fs_yes {P : Nat → Bool} {n : Nat} (h : fs P n < n) : P (fs P n) = true := (fsF_spec P n 0).2.2.2 (by unfold fs at h; omega)
theorem fs_eq {P : Nat → Bool} {n k : Nat} (hk : k ≤ n) (h : ∀ j, j < k → P j = false) (hP : k = n ∨ P k = true) : fs P n = k := by
  rcases Nat.lt_trichotomy (fs P n) k with q | q | q
  · have h1 := h _ q
    rw [fs_yes (P := P) (n := n) (by omega)] at h1
    cases h1
  · exact q
  · have h1 := fs_no q
    rcases hP with h2 | h2
    · have := fs_le P n
      omega
    · rw [h2] at h1
      cases h1
theorem fs_congr {P P' : Nat → Bool} {n : Nat} (h : ∀ j, j < n → P j = P' j) : fs P n = fs P' n := by
  refine fs_eq (fs_le P' n) (fun j hj => ?_) ?_
  · rw [h j (Nat.lt_of_lt_of_le hj (fs_le P' n))]
    exact fs_no hj
  · rcases Nat.lt_or_ge (fs P' n) n with q | q
    · exact Or.inr (by rw [h _ q]; exact fs_yes q)
    · exact Or.inl (Nat.le_antisymm (fs_le P' n) q)
/-- the first of n with P, or NONE -/
def fsI (P : Nat → Bool) (n : Nat) : Int32 := if fs P n < n then nI (fs P n) else -1
theorem fsI_yes {P : Nat → Bool} {n k : Nat} (hk : k < n) (h : ∀ j, j < k → P j = false) (hP : P k = true) : fsI P n = nI k := by
  unfold fsI
  rw [fs_eq (Nat.le_of_lt hk) h (Or.inr hP), if_pos hk]
theorem fsI_no {P : Nat → Bool} {n : Nat} (h : ∀ j, j < n → P j = false) : fsI P n = -1 := by
  unfold fsI
  rw [fs_eq (Nat.le_refl n) h (Or.inl rfl), if_neg (Nat.lt_irrefl n)]
theorem fsI_congr {P P' : Nat → Bool} {n : Nat} (h : ∀ j, j < n → P j = P' j) : fsI P n = fsI P' n := by
  unfold fsI
  rw [fs_congr h]
def fo {α : Type} (g : Nat → α → α) (a : α) : Nat → α
  | 0 => a
  | k + 1 => g k (fo g a k)
theorem fo_congr {α : Type} {g g' : Nat → α → α} {a : α} : ∀ {n : Nat}, (∀ j x, j < n → g j x = g' j x) → fo g a n = fo g' a n
  | 0, _ => rfl
  | n + 1, h => by
    show g n (fo g a n) = g' n (fo g' a n)
    rw [fo_congr (n := n) (fun j x hj => h j x (Nat.lt_succ_of_lt hj)), h n _ (Nat.lt_succ_self n)]
theorem lt_snoc {P : Nat → Bool} {i : Nat} (h : ∀ j, j < i → P j = false) (hi : P i = false) : ∀ j, j < i + 1 → P j = false := fun j hj => by
  rcases Nat.lt_or_ge j i with q | q
  · exact h j q
  · rw [show j = i by omega]
    exact hi
theorem q_le0 {a : Nat} (h : a < 2 ^ 31) : nI a ≤ 0 ↔ a = 0 := ⟨fun q => Nat.le_zero.mp ((nI_leI h (by decide : 0 < 2 ^ 31)).mp q), fun q => by rw [q]; exact (nI_leI (a := 0) (b := 0) (by decide) (by decide)).mpr (Nat.le_refl 0)⟩
theorem q_gt0 {a : Nat} (h : a < 2 ^ 31) : 0 < nI a ↔ 0 < a := nI_ltI (a := 0) (by decide) h
theorem q_lt0 {a : Nat} (h : a < 2 ^ 31) : nI a < 0 ↔ a < 0 := nI_ltI (b := 0) h (by decide)
theorem q_ge0 {a : Nat} (h : a < 2 ^ 31) : 0 ≤ nI a ↔ 0 ≤ a := nI_leI (a := 0) (by decide) h
theorem q_mp (a : Nat) : mI a + nI 1 = nI a := by
  unfold mI
  show nI a - 1 + 1 = nI a
  exact Int32.sub_add_cancel (nI a) 1
theorem q_ms (a : Nat) : mI (a + 1) = nI a := nI_pred a
theorem q_mi {a : Nat} (h : a < 2 ^ 31) : (mI a).toInt = (a : Int) - 1 := by
  cases a with
  | zero => decide
  | succ a =>
    rw [q_ms, nI_toInt (by omega)]
    omega
theorem q_mN {a : Nat} (h : a < 2 ^ 31) : mI a = (-1) ↔ a = 0 := by
  rw [← Int32.toInt_inj, q_mi h, show (-1 : Int32).toInt = -1 by decide]
  omega
theorem q_mlt {k a : Nat} (hk : k < 2 ^ 31) (h : a < 2 ^ 31) : nI k < mI a ↔ k + 1 < a := by
  rw [Int32.lt_iff_toInt_lt, q_mi h, nI_toInt hk]
  omega
theorem q_mm {a b : Nat} (ha : a < 2 ^ 30) (hb : b < 2 ^ 30) : mI a = mI b - nI 1 ↔ a + 1 = b := by
  cases b with
  | zero =>
    have h1 : (mI 0 - nI 1).toInt = -2 := by decide
    rw [← Int32.toInt_inj, q_mi (by omega), h1]
    omega
  | succ b =>
    rw [q_ms]
    show mI a = mI b ↔ _
    rw [← Int32.toInt_inj, q_mi (by omega), q_mi (by omega)]
    omega
/-- a row told by another function that is the same on its places -/
theorem WD.ext {D : va_G} {A : Nat → Prop} {H0 H : Heap} {locs : List Loc} {ws : va_W} (w : WD D A H0 ws H locs) (q0 : Nat) {a n : Nat} {cA : ClassId} {f g : Nat → Int32} (he : ws[q0]? = some (a, .inl (cA, n, .inl f))) (hfg : ∀ j, j < n → f j = g j) : WD D A H0 (ws.set q0 (a, .inl (cA, n, .inl g))) H locs := by
  have hc : vp_cell cA (n, .inl f) = vp_cell cA (n, .inl g) := by
    rw [vp_cell_i, vp_cell_i]
    unfold arrV
    congr 2
    funext j
    show Value.int (f j.val) = Value.int (g j.val)
    rw [hfg j.val j.isLt]
  refine ⟨fun k q hq => ?_, w.2.1.set he, w.2.2⟩
  by_cases hk : k = q0
  · subst hk
    rw [List.getElem?_set] at hq
    simp only [if_true] at hq
    split at hq
    · rw [← Option.some.inj hq]
      have h1 := w.1 k _ he
      show H[a]? = some (vp_cell cA (n, .inl g))
      rw [← hc]
      exact h1
    · cases hq
  · rw [List.getElem?_set_ne (Ne.symm hk)] at hq
    exact w.1 k q hq
theorem q_m1N {a : Nat} (h : 1 ≤ a) : mI a = nI (a - 1) := by
  obtain ⟨b, rfl⟩ : ∃ b, a = b + 1 := ⟨a - 1, by omega⟩
  exact q_ms b
theorem q_mdec {a : Nat} (h : 1 ≤ a) : mI a + Int32.ofInt (-1) = mI (a - 1) := by
  obtain ⟨b, rfl⟩ : ∃ b, a = b + 1 := ⟨a - 1, by omega⟩
  rw [q_ms]
  show nI b + (-1) = nI b - 1
  rw [Int32.sub_eq_add_neg]
theorem q_mlt2 {a k : Nat} (ha : a < 2 ^ 31) (hk : k < 2 ^ 31) : mI a < nI k ↔ a ≤ k := by
  rw [Int32.lt_iff_toInt_lt, q_mi ha, nI_toInt hk]
  omega
end
section
/-! ===== the class's static methods ===== -/
def bel (x b : Int32) : Bool := decide (¬ x < 0 ∧ ¬ b ≤ x)
def sen (st : Nat) : Nat := (st <<< 6) ||| anN 63 st
def cyl (e : Nat) : Nat := (e >>> 6) ||| (e &&& 63)
def enE (c : Nat) (o : Bool) : Nat := if o then c + 6 else c
def cyE (e : Nat) : Nat := if e < 6 then e else e - 6
theorem bel_nI {k n : Nat} (hk : k < 2 ^ 31) (hn : n < 2 ^ 31) : bel (nI k) (nI n) = decide (k < n) := by
  unfold bel
  by_cases h : k < n
  · simp [h, nI_pos hk, nI_leI hn hk]
  · simp [h, nI_pos hk, nI_leI hn hk]
theorem bel_t {x : Int32} {n : Nat} (hn : n < 2 ^ 31) (h : bel x (nI n) = true) : ∃ j : Nat, j < n ∧ x = nI j := by
  unfold bel at h
  have h := of_decide_eq_true h
  exact q_nI hn h.1 h.2
theorem sen_lt {st : Nat} (h : st < 64) : sen st < 4096 := by
  revert st
  decide +kernel
theorem anN_lt {a b k : Nat} (h : b < 2 ^ k) : anN b a < 2 ^ k := by
  refine Nat.lt_pow_two_of_testBit _ (fun i hi => ?_)
  rw [anN_bit, Nat.testBit_lt_two_pow (Nat.lt_of_lt_of_le h (Nat.pow_le_pow_right (by decide) hi))]
  rfl
theorem cyl_lt {e : Nat} (h : e < 4096) : cyl e < 64 := by
  refine Nat.or_lt_two_pow (n := 6) ?_ ?_
  · rw [Nat.shiftRight_eq_div_pow]; omega
  · exact Nat.lt_of_le_of_lt Nat.and_le_right (by decide)
set_option maxHeartbeats 4000000 in
set_option maxRecDepth 100000 in
theorem c_X5_isBelow (l : Launch) (D : va_G) (cI cZ : ClassId) (x : Int32) (b : Int32)  : MI l D cI cZ yX5_isBelow wsX5_isBelow ({ frames := 0, cells := 0, slots := 0, locals := 0 }) [.int x, .int b] [] (fun r w => r = bI (bel x b) ∧ w = []) := by
  refine MI.of (cc := cX5_isBelow) (maxL := 2) (ret := (some .boolean)) (own := RX5) (by decide) rfl rfl (Nat.le_of_ble_eq_true rfl) ?_
  intro pQ eQ s mQ args below meth cQ A X hw ls hl
  obtain ⟨⟨hx, hb, hml, hown, hts⟩, hr, hlk, hK, hN, hA⟩ := id X
  have hl : lv_has ls 2 [(0, .int x), (1, .int b)] := hl
  refine lv_iload_n hx hb dX5_isBelow_0 rfl (lv_at hl 0 rfl) ?_
  refine lv_if_lt (tgt := 13) hx hb dX5_isBelow_1 (by decide) (fun c_1 => ?_) (fun c_1 => ?_)
  · skip
    refine lv_iconst (v := nI 0) hx hb dX5_isBelow_13 (by decide) ?_
    refine cv_i (show nI 0 = bI false from by decide) ?_
    exact x_zret X hw (⟨(by simp [bel, c_1]), rfl⟩) dX5_isBelow_14
  · skip
    refine lv_iload_n hx hb dX5_isBelow_4 rfl (lv_at hl 0 rfl) ?_
    refine lv_iload_n hx hb dX5_isBelow_5 rfl (lv_at hl 1 rfl) ?_
    refine lv_icmp_ge (tgt := 13) hx hb dX5_isBelow_6 (by decide) (fun c_6 => ?_) (fun c_6 => ?_)
    · skip
      refine lv_iconst (v := nI 0) hx hb dX5_isBelow_13 (by decide) ?_
      refine cv_i (show nI 0 = bI false from by decide) ?_
      exact x_zret X hw (⟨(by simp [bel, c_1, c_6]), rfl⟩) dX5_isBelow_14
    · skip
      refine lv_iconst (v := nI 1) hx hb dX5_isBelow_9 (by decide) ?_
      refine lv_goto (tgt := 14) hx hb dX5_isBelow_10 (by decide) ?_
      refine cv_i (show nI 1 = bI true from by decide) ?_
      exact x_zret X hw (⟨(by simp [bel, c_1, c_6]), rfl⟩) dX5_isBelow_14
set_option maxHeartbeats 4000000 in
set_option maxRecDepth 100000 in
theorem c_X5_isState (l : Launch) (D : va_G) (cI cZ : ClassId) (x : Int32)  : MI l D cI cZ yX5_isState wsX5_isState ({ frames := 1, cells := 0, slots := 0, locals := 21 }) [.int x] [] (fun r w => r = bI (bel x (nI 64)) ∧ w = []) := by
  refine MI.of (cc := cX5_isState) (maxL := 1) (ret := (some .boolean)) (own := RX5) (by decide) rfl rfl (Nat.le_of_ble_eq_true rfl) ?_
  intro pQ eQ s mQ args below meth cQ A X hw ls hl
  obtain ⟨⟨hx, hb, hml, hown, hts⟩, hr, hlk, hK, hN, hA⟩ := id X
  have hl : lv_has ls 1 [(0, .int x)] := hl
  refine lv_iload_n hx hb dX5_isState_0 rfl (lv_at hl 0 rfl) ?_
  refine lv_bipush (v := nI 64) hx hb dX5_isState_1 (by decide) ?_
  refine x_callS (As := [.int x, .int (nI 64)]) (rest := []) X hw hl.1 (c_X5_isBelow l D cI cZ x (nI 64) ) (va_cwS 2 hts gX5_isState_X5_isBelow rfl rfl rfl (by decide +kernel) ⟨Nat.le_of_ble_eq_true rfl, Nat.le_of_ble_eq_true rfl⟩) [] rfl rfl rfl (Nat.le_of_ble_eq_true rfl) dX5_isState_3 (by decide) (fun r w1 H locs hp hw1 => ?_)
  obtain ⟨rfl, rfl⟩ := hp
  have hw : WD D A s.heap [] H locs := hw1 rfl
  exact x_zret X hw (⟨(by first | rfl | omega), rfl⟩) dX5_isState_6
set_option maxHeartbeats 4000000 in
set_option maxRecDepth 100000 in
theorem c_X5_has (l : Launch) (D : va_G) (cI cZ : ClassId) (b : Nat) (k : Nat) (hb1 : b < 2 ^ 31) (hk1 : k < 32) : MI l D cI cZ yX5_has wsX5_has ({ frames := 0, cells := 0, slots := 0, locals := 0 }) [.int (nI b), .int (nI k)] [] (fun r w => r = bI (b.testBit k) ∧ w = []) := by
  refine MI.of (cc := cX5_has) (maxL := 2) (ret := (some .boolean)) (own := RX5) (by decide) rfl rfl (Nat.le_of_ble_eq_true rfl) ?_
  intro pQ eQ s mQ args below meth cQ A X hw ls hl
  obtain ⟨⟨hx, hb, hml, hown, hts⟩, hr, hlk, hK, hN, hA⟩ := id X
  have hl : lv_has ls 2 [(0, .int (nI b)), (1, .int (nI k))] := hl
  refine lv_iload_n hx hb dX5_has_0 rfl (lv_at hl 0 rfl) ?_
  refine lv_iload_n hx hb dX5_has_1 rfl (lv_at hl 1 rfl) ?_
  refine lv_ishr hx hb dX5_has_2 ?_
  refine cv_i (show (nI b) >>> (nI k &&& 31) = nI (b >>> k) from q_shr b k (by first | omega | assumption) (by first | omega | assumption)) ?_
  refine lv_iconst (v := nI 1) hx hb dX5_has_3 (by decide) ?_
  refine lv_iand hx hb dX5_has_4 ?_
  refine cv_i (show nI (b >>> k) &&& nI 1 = bI (b.testBit k) from q_bit b k) ?_
  refine lv_if_eq (tgt := 12) hx hb dX5_has_5 (by decide) (fun c_5 => ?_) (fun c_5 => ?_)
  · skip
    rw [q_b0] at c_5; try simp only [Bool.not_eq_false, Bool.not_eq_true] at c_5
    refine lv_iconst (v := nI 0) hx hb dX5_has_12 (by decide) ?_
    refine cv_i (show nI 0 = bI false from by decide) ?_
    exact x_zret X hw (⟨(by rw [c_5]), rfl⟩) dX5_has_13
  · skip
    rw [q_b0] at c_5; try simp only [Bool.not_eq_false, Bool.not_eq_true] at c_5
    refine lv_iconst (v := nI 1) hx hb dX5_has_8 (by decide) ?_
    refine lv_goto (tgt := 13) hx hb dX5_has_9 (by decide) ?_
    refine cv_i (show nI 1 = bI true from by decide) ?_
    exact x_zret X hw (⟨(by rw [c_5]), rfl⟩) dX5_has_13
set_option maxHeartbeats 4000000 in
set_option maxRecDepth 100000 in
theorem c_X5_leastOf (l : Launch) (D : va_G) (cI cZ : ClassId) (b : Nat) (hb1 : b < 2 ^ 31) : MI l D cI cZ yX5_leastOf wsX5_leastOf ({ frames := 1, cells := 0, slots := 0, locals := 21 }) [.int (nI b)] [] (fun r w => r = fsI (fun c => b.testBit c) 6 ∧ w = []) := by
  refine MI.of (cc := cX5_leastOf) (maxL := 2) (ret := (some .int)) (own := RX5) (by decide) rfl rfl (Nat.le_of_ble_eq_true rfl) ?_
  intro pQ eQ s mQ args below meth cQ A X hw ls hl
  obtain ⟨⟨hx, hb, hml, hown, hts⟩, hr, hlk, hK, hN, hA⟩ := id X
  have hl : lv_has ls 2 [(0, .int (nI b))] := hl
  refine lv_iconst (v := nI 0) hx hb dX5_leastOf_0 (by decide) ?_
  refine lv_istore_n (lv' := [(1, .int (nI 0)), (0, .int (nI b))]) hx hb dX5_leastOf_1 rfl hl (by decide) rfl (fun ls hl => ?_)
  refine wl (α := Nat) (nL := 2) (fun a => 6 - a) (fun a => (a ≤ 6) ∧ (∀ j, j < a → b.testBit j = false)) (fun a => []) (fun a => [(1, .int (nI a)), (0, .int (nI b))]) ?_ 0 ⟨(show 0 ≤ 6 from by omega), (show ∀ j, j < 0 → b.testBit j = false from fun j hj => absurd hj (Nat.not_lt_zero j))⟩ _ _ _ hw (lv_sub hl [0, 1] rfl)
  rintro i ⟨hi, hq⟩ H locs ls hw hl ih_2
  have hi : i ≤ 6 := hi
  have hq : ∀ j, j < i → b.testBit j = false := hq
  have hw : WD D A s.heap [] H locs := hw
  have hl : lv_has ls 2 [(1, .int (nI i)), (0, .int (nI b))] := hl
  refine lv_iload_n hx hb dX5_leastOf_2 rfl (lv_at hl 0 rfl) ?_
  refine lv_bipush (v := nI 6) hx hb dX5_leastOf_3 (by decide) ?_
  refine lv_icmp_ge (tgt := 24) hx hb dX5_leastOf_5 (by decide) (fun c_5 => ?_) (fun c_5 => ?_)
  · skip
    rw [nI_leI (by omega) (by omega)] at c_5
    refine lv_iconst (v := (-1)) hx hb dX5_leastOf_24 (by decide) ?_
    exact x_iret X hw (⟨((fsI_no (P := fun c => b.testBit c) (fun j hj => hq j (by omega))).symm), rfl⟩) dX5_leastOf_25
  · skip
    rw [nI_leI (by omega) (by omega)] at c_5
    refine lv_iload_n hx hb dX5_leastOf_8 rfl (lv_at hl 1 rfl) ?_
    refine lv_iload_n hx hb dX5_leastOf_9 rfl (lv_at hl 0 rfl) ?_
    refine x_callS (As := [.int (nI b), .int (nI i)]) (rest := []) X hw hl.1 (c_X5_has l D cI cZ b i (by first | assumption | omega) (by first | assumption | omega)) (va_cwS 2 hts gX5_leastOf_X5_has rfl rfl rfl (by decide +kernel) ⟨Nat.le_of_ble_eq_true rfl, Nat.le_of_ble_eq_true rfl⟩) [] rfl rfl rfl (Nat.le_of_ble_eq_true rfl) dX5_leastOf_10 (by decide) (fun r w1 H locs hp hw1 => ?_)
    obtain ⟨rfl, rfl⟩ := hp
    have hw : WD D A s.heap [] H locs := hw1 rfl
    refine lv_if_eq (tgt := 18) hx hb dX5_leastOf_13 (by decide) (fun c_13 => ?_) (fun c_13 => ?_)
    · skip
      rw [q_b0] at c_13; try simp only [Bool.not_eq_false, Bool.not_eq_true] at c_13
      refine lv_iinc (v := nI (i + 1)) (lv' := [(1, .int (nI (i + 1))), (0, .int (nI b))]) hx hb dX5_leastOf_18 hl (k := 0) rfl (nI_add i 1) (by decide) rfl (fun ls hl => ?_)
      refine lv_goto (tgt := 2) hx hb dX5_leastOf_21 (by decide) ?_
      exact ih_2 (i + 1) (by show 6 - (i + 1) < 6 - i; omega) ⟨(show (i + 1) ≤ 6 from by omega), (show ∀ j, j < (i + 1) → b.testBit j = false from lt_snoc (P := fun c => b.testBit c) hq c_13)⟩ _ _ _ hw (lv_sub hl [0, 1] rfl)
    · skip
      rw [q_b0] at c_13; try simp only [Bool.not_eq_false, Bool.not_eq_true] at c_13
      refine lv_iload_n hx hb dX5_leastOf_16 rfl (lv_at hl 0 rfl) ?_
      exact x_iret X hw (⟨((fsI_yes (P := fun c => b.testBit c) (by omega) hq c_13).symm), rfl⟩) dX5_leastOf_17
set_option maxHeartbeats 4000000 in
set_option maxRecDepth 100000 in
theorem c_X5_endOf (l : Launch) (D : va_G) (cI cZ : ClassId) (c : Nat) (o : Bool)  : MI l D cI cZ yX5_endOf wsX5_endOf ({ frames := 0, cells := 0, slots := 0, locals := 0 }) [.int (nI c), .int (bI o)] [] (fun r w => r = nI (enE c o) ∧ w = []) := by
  refine MI.of (cc := cX5_endOf) (maxL := 2) (ret := (some .int)) (own := RX5) (by decide) rfl rfl (Nat.le_of_ble_eq_true rfl) ?_
  intro pQ eQ s mQ args below meth cQ A X hw ls hl
  obtain ⟨⟨hx, hb, hml, hown, hts⟩, hr, hlk, hK, hN, hA⟩ := id X
  have hl : lv_has ls 2 [(0, .int (nI c)), (1, .int (bI o))] := hl
  refine lv_iload_n hx hb dX5_endOf_0 rfl (lv_at hl 1 rfl) ?_
  refine lv_if_eq (tgt := 11) hx hb dX5_endOf_1 (by decide) (fun c_1 => ?_) (fun c_1 => ?_)
  · skip
    rw [q_b0] at c_1; try simp only [Bool.not_eq_false, Bool.not_eq_true] at c_1
    refine lv_iload_n hx hb dX5_endOf_11 rfl (lv_at hl 0 rfl) ?_
    exact x_iret X hw (⟨(by rw [c_1]; rfl), rfl⟩) dX5_endOf_12
  · skip
    rw [q_b0] at c_1; try simp only [Bool.not_eq_false, Bool.not_eq_true] at c_1
    refine lv_iload_n hx hb dX5_endOf_4 rfl (lv_at hl 0 rfl) ?_
    refine lv_bipush (v := nI 6) hx hb dX5_endOf_5 (by decide) ?_
    refine lv_iadd hx hb dX5_endOf_7 ?_
    refine cv_i (show nI c + nI 6 = nI (c + 6) from nI_add c 6) ?_
    refine lv_goto (tgt := 12) hx hb dX5_endOf_8 (by decide) ?_
    exact x_iret X hw (⟨(by rw [c_1]; rfl), rfl⟩) dX5_endOf_12
set_option maxHeartbeats 4000000 in
set_option maxRecDepth 100000 in
theorem c_X5_cylinderOf (l : Launch) (D : va_G) (cI cZ : ClassId) (e1 : Nat) (he1 : e1 < 2 ^ 31) : MI l D cI cZ yX5_cylinderOf wsX5_cylinderOf ({ frames := 0, cells := 0, slots := 0, locals := 0 }) [.int (nI e1)] [] (fun r w => r = nI (cyE e1) ∧ w = []) := by
  refine MI.of (cc := cX5_cylinderOf) (maxL := 1) (ret := (some .int)) (own := RX5) (by decide) rfl rfl (Nat.le_of_ble_eq_true rfl) ?_
  intro pQ eQ s mQ args below meth cQ A X hw ls hl
  obtain ⟨⟨hx, hb, hml, hown, hts⟩, hr, hlk, hK, hN, hA⟩ := id X
  have hl : lv_has ls 1 [(0, .int (nI e1))] := hl
  refine lv_iload_n hx hb dX5_cylinderOf_0 rfl (lv_at hl 0 rfl) ?_
  refine lv_bipush (v := nI 6) hx hb dX5_cylinderOf_1 (by decide) ?_
  refine lv_icmp_ge (tgt := 10) hx hb dX5_cylinderOf_3 (by decide) (fun c_3 => ?_) (fun c_3 => ?_)
  · skip
    rw [nI_leI (by omega) (by omega)] at c_3
    refine lv_iload_n hx hb dX5_cylinderOf_10 rfl (lv_at hl 0 rfl) ?_
    refine lv_bipush (v := nI 6) hx hb dX5_cylinderOf_11 (by decide) ?_
    refine lv_isub hx hb dX5_cylinderOf_13 ?_
    refine cv_i (show nI e1 - nI 6 = nI (e1 - 6) from pk_sub (by first | omega | assumption)) ?_
    exact x_iret X hw (⟨(congrArg nI (by unfold cyE; split <;> omega)), rfl⟩) dX5_cylinderOf_14
  · skip
    rw [nI_leI (by omega) (by omega)] at c_3
    refine lv_iload_n hx hb dX5_cylinderOf_6 rfl (lv_at hl 0 rfl) ?_
    refine lv_goto (tgt := 14) hx hb dX5_cylinderOf_7 (by decide) ?_
    exact x_iret X hw (⟨(congrArg nI (by unfold cyE; split <;> omega)), rfl⟩) dX5_cylinderOf_14
set_option maxHeartbeats 4000000 in
set_option maxRecDepth 100000 in
theorem c_X5_endsTo (l : Launch) (D : va_G) (cI cZ : ClassId) (o : Nat) (i : Nat)  : MI l D cI cZ yX5_endsTo wsX5_endsTo ({ frames := 0, cells := 0, slots := 0, locals := 0 }) [.int (nI o), .int (nI i)] [] (fun r w => r = nI ((o <<< 6) ||| i) ∧ w = []) := by
  refine MI.of (cc := cX5_endsTo) (maxL := 2) (ret := (some .int)) (own := RX5) (by decide) rfl rfl (Nat.le_of_ble_eq_true rfl) ?_
  intro pQ eQ s mQ args below meth cQ A X hw ls hl
  obtain ⟨⟨hx, hb, hml, hown, hts⟩, hr, hlk, hK, hN, hA⟩ := id X
  have hl : lv_has ls 2 [(0, .int (nI o)), (1, .int (nI i))] := hl
  refine lv_iload_n hx hb dX5_endsTo_0 rfl (lv_at hl 0 rfl) ?_
  refine lv_bipush (v := nI 6) hx hb dX5_endsTo_1 (by decide) ?_
  refine lv_ishl hx hb dX5_endsTo_3 ?_
  refine cv_i (show (nI o) <<< (nI 6 &&& 31) = nI (o <<< 6) from q_shl o 6 (by first | omega | assumption)) ?_
  refine lv_iload_n hx hb dX5_endsTo_4 rfl (lv_at hl 1 rfl) ?_
  refine lv_ior hx hb dX5_endsTo_5 ?_
  refine cv_i (show nI (o <<< 6) ||| nI i = nI ((o <<< 6) ||| i) from q_or (o <<< 6) i) ?_
  exact x_iret X hw (⟨(by first | rfl | omega), rfl⟩) dX5_endsTo_6
set_option maxHeartbeats 4000000 in
set_option maxRecDepth 100000 in
theorem c_X5_outsOf (l : Launch) (D : va_G) (cI cZ : ClassId) (e1 : Nat) (he1 : e1 < 2 ^ 31) : MI l D cI cZ yX5_outsOf wsX5_outsOf ({ frames := 0, cells := 0, slots := 0, locals := 0 }) [.int (nI e1)] [] (fun r w => r = nI (e1 >>> 6) ∧ w = []) := by
  refine MI.of (cc := cX5_outsOf) (maxL := 1) (ret := (some .int)) (own := RX5) (by decide) rfl rfl (Nat.le_of_ble_eq_true rfl) ?_
  intro pQ eQ s mQ args below meth cQ A X hw ls hl
  obtain ⟨⟨hx, hb, hml, hown, hts⟩, hr, hlk, hK, hN, hA⟩ := id X
  have hl : lv_has ls 1 [(0, .int (nI e1))] := hl
  refine lv_iload_n hx hb dX5_outsOf_0 rfl (lv_at hl 0 rfl) ?_
  refine lv_bipush (v := nI 6) hx hb dX5_outsOf_1 (by decide) ?_
  refine lv_ishr hx hb dX5_outsOf_3 ?_
  refine cv_i (show (nI e1) >>> (nI 6 &&& 31) = nI (e1 >>> 6) from q_shr e1 6 (by first | omega | assumption) (by first | omega | assumption)) ?_
  exact x_iret X hw (⟨(by first | rfl | omega), rfl⟩) dX5_outsOf_4
set_option maxHeartbeats 4000000 in
set_option maxRecDepth 100000 in
theorem c_X5_insOf (l : Launch) (D : va_G) (cI cZ : ClassId) (e1 : Nat)  : MI l D cI cZ yX5_insOf wsX5_insOf ({ frames := 0, cells := 0, slots := 0, locals := 0 }) [.int (nI e1)] [] (fun r w => r = nI (e1 &&& 63) ∧ w = []) := by
  refine MI.of (cc := cX5_insOf) (maxL := 1) (ret := (some .int)) (own := RX5) (by decide) rfl rfl (Nat.le_of_ble_eq_true rfl) ?_
  intro pQ eQ s mQ args below meth cQ A X hw ls hl
  obtain ⟨⟨hx, hb, hml, hown, hts⟩, hr, hlk, hK, hN, hA⟩ := id X
  have hl : lv_has ls 1 [(0, .int (nI e1))] := hl
  refine lv_iload_n hx hb dX5_insOf_0 rfl (lv_at hl 0 rfl) ?_
  refine lv_bipush (v := nI 63) hx hb dX5_insOf_1 (by decide) ?_
  refine lv_iand hx hb dX5_insOf_3 ?_
  refine cv_i (show nI e1 &&& nI 63 = nI (e1 &&& 63) from q_and e1 63) ?_
  exact x_iret X hw (⟨(by first | rfl | omega), rfl⟩) dX5_insOf_4
set_option maxHeartbeats 4000000 in
set_option maxRecDepth 100000 in
theorem c_X5_cylindersOf (l : Launch) (D : va_G) (cI cZ : ClassId) (e1 : Nat) (he1 : e1 < 2 ^ 31) : MI l D cI cZ yX5_cylindersOf wsX5_cylindersOf ({ frames := 1, cells := 0, slots := 0, locals := 20 }) [.int (nI e1)] [] (fun r w => r = nI (cyl e1) ∧ w = []) := by
  refine MI.of (cc := cX5_cylindersOf) (maxL := 1) (ret := (some .int)) (own := RX5) (by decide) rfl rfl (Nat.le_of_ble_eq_true rfl) ?_
  intro pQ eQ s mQ args below meth cQ A X hw ls hl
  obtain ⟨⟨hx, hb, hml, hown, hts⟩, hr, hlk, hK, hN, hA⟩ := id X
  have hl : lv_has ls 1 [(0, .int (nI e1))] := hl
  refine lv_iload_n hx hb dX5_cylindersOf_0 rfl (lv_at hl 0 rfl) ?_
  refine x_callS (As := [.int (nI e1)]) (rest := []) X hw hl.1 (c_X5_outsOf l D cI cZ e1 (by first | assumption | omega)) (va_cwS 1 hts gX5_cylindersOf_X5_outsOf rfl rfl rfl (by decide +kernel) ⟨Nat.le_of_ble_eq_true rfl, Nat.le_of_ble_eq_true rfl⟩) [] rfl rfl rfl (Nat.le_of_ble_eq_true rfl) dX5_cylindersOf_1 (by decide) (fun r w1 H locs hp hw1 => ?_)
  obtain ⟨rfl, rfl⟩ := hp
  have hw : WD D A s.heap [] H locs := hw1 rfl
  refine lv_iload_n hx hb dX5_cylindersOf_4 rfl (lv_at hl 0 rfl) ?_
  refine x_callS (As := [.int (nI e1)]) (rest := [.int (nI (e1 >>> 6))]) X hw hl.1 (c_X5_insOf l D cI cZ e1 ) (va_cwS 1 hts gX5_cylindersOf_X5_insOf rfl rfl rfl (by decide +kernel) ⟨Nat.le_of_ble_eq_true rfl, Nat.le_of_ble_eq_true rfl⟩) [] rfl rfl rfl (Nat.le_of_ble_eq_true rfl) dX5_cylindersOf_5 (by decide) (fun r w1 H locs hp hw1 => ?_)
  obtain ⟨rfl, rfl⟩ := hp
  have hw : WD D A s.heap [] H locs := hw1 rfl
  refine lv_ior hx hb dX5_cylindersOf_8 ?_
  refine cv_i (show nI (e1 >>> 6) ||| nI (e1 &&& 63) = nI ((e1 >>> 6) ||| (e1 &&& 63)) from q_or (e1 >>> 6) (e1 &&& 63)) ?_
  exact x_iret X hw (⟨(by first | rfl | omega), rfl⟩) dX5_cylindersOf_9
set_option maxHeartbeats 4000000 in
set_option maxRecDepth 100000 in
theorem c_X5_sensorsOn (l : Launch) (D : va_G) (cI cZ : ClassId) (st : Nat)  : MI l D cI cZ yX5_sensorsOn wsX5_sensorsOn ({ frames := 1, cells := 0, slots := 0, locals := 21 }) [.int (nI st)] [] (fun r w => r = nI (sen st) ∧ w = []) := by
  refine MI.of (cc := cX5_sensorsOn) (maxL := 1) (ret := (some .int)) (own := RX5) (by decide) rfl rfl (Nat.le_of_ble_eq_true rfl) ?_
  intro pQ eQ s mQ args below meth cQ A X hw ls hl
  obtain ⟨⟨hx, hb, hml, hown, hts⟩, hr, hlk, hK, hN, hA⟩ := id X
  have hl : lv_has ls 1 [(0, .int (nI st))] := hl
  refine lv_iload_n hx hb dX5_sensorsOn_0 rfl (lv_at hl 0 rfl) ?_
  refine lv_iload_n hx hb dX5_sensorsOn_1 rfl (lv_at hl 0 rfl) ?_
  refine lv_iconst (v := (-1)) hx hb dX5_sensorsOn_2 (by decide) ?_
  refine lv_ixor hx hb dX5_sensorsOn_3 ?_
  refine lv_bipush (v := nI 63) hx hb dX5_sensorsOn_4 (by decide) ?_
  refine lv_iand hx hb dX5_sensorsOn_6 ?_
  refine cv_i (show (nI st ^^^ (-1 : Int32)) &&& nI 63 = nI (anN 63 st) from q_anL 63 st) ?_
  refine x_callS (As := [.int (nI st), .int (nI (anN 63 st))]) (rest := []) X hw hl.1 (c_X5_endsTo l D cI cZ st (anN 63 st) ) (va_cwS 2 hts gX5_sensorsOn_X5_endsTo rfl rfl rfl (by decide +kernel) ⟨Nat.le_of_ble_eq_true rfl, Nat.le_of_ble_eq_true rfl⟩) [] rfl rfl rfl (Nat.le_of_ble_eq_true rfl) dX5_sensorsOn_7 (by decide) (fun r w1 H locs hp hw1 => ?_)
  obtain ⟨rfl, rfl⟩ := hp
  have hw : WD D A s.heap [] H locs := hw1 rfl
  exact x_iret X hw (⟨(by first | rfl | omega), rfl⟩) dX5_sensorsOn_10
end
section
/-! ===== AirSteps.Text ===== -/
def pr (n k : Nat) : Nat := if k = 0 then n - 1 else k - 1
theorem pr_lt {n k : Nat} (h : k < n) : pr n k < n := by unfold pr; split <;> omega
def wr (en st : Nat → Nat) (k : Nat) : Bool := decide (¬ en k &&& sen (st k) = 0)
def fwC (en st : Nat → Nat) (n : Nat) : Int32 := if fs (wr en st) n < n then nI (fs (wr en st) n) else if n = 0 ∨ ¬ st n = 0 then nI n else -1
def alk (st : Nat → Nat) (v : Nat) (n : Nat) : Nat := fo (fun k a => if st k = v then a + 1 else a) 0 n
theorem alk_le (st : Nat → Nat) (v : Nat) : ∀ n : Nat, alk st v n ≤ n
  | 0 => Nat.le_refl 0
  | n + 1 => by
    have h := alk_le st v n
    show (if st n = v then alk st v n + 1 else alk st v n) ≤ n + 1
    split <;> omega
def mal (st : Nat → Nat) (n i : Nat) : Nat := fo (fun k a => max a (alk st (st k) n)) 0 i
def popc (e : Nat) : Nat := fo (fun i a => a + (e.testBit i).toNat) 0 16
def mvs (en : Nat → Nat) (n : Nat) : Nat := fo (fun k a => a + popc (en k)) 0 n
set_option maxHeartbeats 4000000 in
set_option maxRecDepth 100000 in
theorem c_X3_size (l : Launch) (D : va_G) (cI cZ : ClassId) (t : Nat) (te : Nat) (ts : Nat) (en : Nat → Nat) (st : Nat → Nat) (n : Nat)  : MI l D cI cZ yX3_size wsX3_size ({ frames := 0, cells := 0, slots := 0, locals := 0 }) [.ref t] [(t, .inr (3, [.ref te, .ref ts, .int (nI n)])), (te, .inl (cI, 16, .inl (iA en))), (ts, .inl (cI, 17, .inl (iA st)))] (fun r w => r = nI n ∧ w = [(t, .inr (3, [.ref te, .ref ts, .int (nI n)])), (te, .inl (cI, 16, .inl (iA en))), (ts, .inl (cI, 17, .inl (iA st)))]) := by
  refine MI.of (cc := cX3_size) (maxL := 1) (ret := (some .int)) (own := RX3) (by decide) rfl rfl (Nat.le_of_ble_eq_true rfl) ?_
  intro pQ eQ s mQ args below meth cQ A X hw ls hl
  obtain ⟨⟨hx, hb, hml, hown, hts⟩, hr, hlk, hK, hN, hA⟩ := id X
  have hl : lv_has ls 1 [(0, .ref t)] := hl
  have n3 : ∀ w ∈ wsX30, w ∈ wsX3_size := by decide +kernel
  have f18 : FF args s RX3 wsX3_size 18 3 2 := ⟨_, rfl, by decide, n3, hts (.fieldLink RX3 18 "AirSteps$Text" "size" "I") (by decide +kernel)⟩
  refine lv_aload_n hx hb dX3_size_0 rfl (lv_at hl 0 rfl) ?_
  refine x_get X hw f18 0 rfl rfl dX3_size_1 ?_
  exact x_iret X hw (⟨(by first | rfl | omega), rfl⟩) dX3_size_4
set_option maxHeartbeats 4000000 in
set_option maxRecDepth 100000 in
theorem c_X3_add (l : Launch) (D : va_G) (cI cZ : ClassId) (t : Nat) (te : Nat) (ts : Nat) (en : Nat → Nat) (st : Nat → Nat) (n : Nat) (o : Nat) (i : Nat) (hn16 : n < 16) (hst : ∀ k, st k < 64) (hen : ∀ k, en k < 4096) : MV l D cI cZ yX3_add wsX3_add ({ frames := 1, cells := 0, slots := 0, locals := 21 }) [.ref t, .int (nI o), .int (nI i)] [(t, .inr (3, [.ref te, .ref ts, .int (nI n)])), (te, .inl (cI, 16, .inl (iA en))), (ts, .inl (cI, 17, .inl (iA st)))] 0 0 (fun w => w = [(t, .inr (3, [.ref te, .ref ts, .int (nI (n + 1))])), (te, .inl (cI, 16, .inl (iA (va_up en n (o <<< 6 ||| i))))), (ts, .inl (cI, 17, .inl (iA (va_up st (n + 1) (anN (st n ||| o) i)))))]) := by
  refine MV.of (cc := cX3_add) (maxL := 3) (ret := none) (own := RX3) (by decide) rfl rfl (Nat.le_of_ble_eq_true rfl) ?_
  intro pQ eQ s mQ args below meth cQ A X hnm hw ls hl
  obtain ⟨⟨hx, hb, hml, hown, hts⟩, hr, hlk, hK, hN, hA⟩ := id X
  have hl : lv_has ls 3 [(0, .ref t), (1, .int (nI o)), (2, .int (nI i))] := hl
  have n3 : ∀ w ∈ wsX30, w ∈ wsX3_add := by decide +kernel
  have f9 : FF args s RX3 wsX3_add 9 3 0 := ⟨_, rfl, by decide, n3, hts (.fieldLink RX3 9 "AirSteps$Text" "ends" "[I") (by decide +kernel)⟩
  have f15 : FF args s RX3 wsX3_add 15 3 1 := ⟨_, rfl, by decide, n3, hts (.fieldLink RX3 15 "AirSteps$Text" "states" "[I") (by decide +kernel)⟩
  have f18 : FF args s RX3 wsX3_add 18 3 2 := ⟨_, rfl, by decide, n3, hts (.fieldLink RX3 18 "AirSteps$Text" "size" "I") (by decide +kernel)⟩
  have p18 : FP args s RX3 wsX3_add 18 3 2 := ⟨_, tyX3, rfl, by decide, n3, hts (.fieldLink RX3 18 "AirSteps$Text" "size" "I") (by decide +kernel), tyX3_ok, nmX3, rfl, by decide +kernel⟩
  refine lv_aload_n hx hb dX3_add_0 rfl (lv_at hl 0 rfl) ?_
  refine x_get X hw f18 0 rfl rfl dX3_add_1 ?_
  refine lv_bipush (v := nI 16) hx hb dX3_add_4 (by decide) ?_
  refine lv_icmp_lt (tgt := 10) hx hb dX3_add_6 (by decide) (fun c_6 => ?_) (fun c_6 => ?_)
  · skip
    rw [nI_ltI (by omega) (by omega)] at c_6
    refine lv_aload_n hx hb dX3_add_10 rfl (lv_at hl 0 rfl) ?_
    refine x_get X hw f9 0 rfl rfl dX3_add_11 ?_
    refine lv_aload_n hx hb dX3_add_14 rfl (lv_at hl 0 rfl) ?_
    refine x_get X hw f18 0 rfl rfl dX3_add_15 ?_
    refine lv_iload_n hx hb dX3_add_18 rfl (lv_at hl 1 rfl) ?_
    refine lv_iload_n hx hb dX3_add_19 rfl (lv_at hl 2 rfl) ?_
    refine x_callN (As := [.int (nI o), .int (nI i)]) (rest := [.int (nI n), .ref te]) (host := RX5) (n := 2) X hw hl.1 (c_X5_endsTo l D cI cZ o i ) gX3_add_X5_endsTo_n22 rfl rfl rfl (List.mem_of_getElem? (i := 3) rfl) (by decide +kernel) (by decide +kernel) (by decide +kernel) ⟨Nat.le_of_ble_eq_true rfl, Nat.le_of_ble_eq_true rfl⟩ [] rfl rfl rfl (Nat.le_of_ble_eq_true rfl) dX3_add_20 (by decide) (fun r w1 H locs hp hw1 => ?_)
    obtain ⟨rfl, rfl⟩ := hp
    have hw : WD D A s.heap [(t, .inr (3, [.ref te, .ref ts, .int (nI n)])), (te, .inl (cI, 16, .inl (iA en))), (ts, .inl (cI, 17, .inl (iA st)))] H locs := hw1 rfl
    refine x_astN X hw 1 rfl (by omega) (by omega) dX3_add_23 (fun H locs hw => ?_)
    have hw : WD D A s.heap [(t, .inr (3, [.ref te, .ref ts, .int (nI n)])), (te, .inl (cI, 16, .inl (iA (va_up en n ((o <<< 6) ||| i))))), (ts, .inl (cI, 17, .inl (iA st)))] H locs := hw
    refine lv_aload_n hx hb dX3_add_24 rfl (lv_at hl 0 rfl) ?_
    refine x_get X hw f15 0 rfl rfl dX3_add_25 ?_
    refine lv_aload_n hx hb dX3_add_28 rfl (lv_at hl 0 rfl) ?_
    refine x_get X hw f18 0 rfl rfl dX3_add_29 ?_
    refine lv_iconst (v := nI 1) hx hb dX3_add_32 (by decide) ?_
    refine lv_iadd hx hb dX3_add_33 ?_
    refine cv_i (show nI n + nI 1 = nI (n + 1) from nI_add n 1) ?_
    refine lv_aload_n hx hb dX3_add_34 rfl (lv_at hl 0 rfl) ?_
    refine x_get X hw f15 0 rfl rfl dX3_add_35 ?_
    refine lv_aload_n hx hb dX3_add_38 rfl (lv_at hl 0 rfl) ?_
    refine x_get X hw f18 0 rfl rfl dX3_add_39 ?_
    refine x_aldN X hw 2 rfl (by omega) (by omega) dX3_add_42 ?_
    have hb_42 := hst n
    refine lv_iload_n hx hb dX3_add_43 rfl (lv_at hl 1 rfl) ?_
    refine lv_ior hx hb dX3_add_44 ?_
    refine cv_i (show nI (st n) ||| nI o = nI ((st n) ||| o) from q_or (st n) o) ?_
    refine lv_iload_n hx hb dX3_add_45 rfl (lv_at hl 2 rfl) ?_
    refine lv_iconst (v := (-1)) hx hb dX3_add_46 (by decide) ?_
    refine lv_ixor hx hb dX3_add_47 ?_
    refine lv_iand hx hb dX3_add_48 ?_
    refine cv_i (show nI ((st n) ||| o) &&& (nI i ^^^ (-1 : Int32)) = nI (anN ((st n) ||| o) i) from q_anR ((st n) ||| o) i) ?_
    refine x_astN X hw 2 rfl (by omega) (by omega) dX3_add_49 (fun H locs hw => ?_)
    have hw : WD D A s.heap [(t, .inr (3, [.ref te, .ref ts, .int (nI n)])), (te, .inl (cI, 16, .inl (iA (va_up en n ((o <<< 6) ||| i))))), (ts, .inl (cI, 17, .inl (iA (va_up st (n + 1) (anN ((st n) ||| o) i)))))] H locs := hw
    refine lv_aload_n hx hb dX3_add_50 rfl (lv_at hl 0 rfl) ?_
    refine lv_dup hx hb dX3_add_51 rfl ?_
    refine x_get X hw f18 0 rfl rfl dX3_add_52 ?_
    refine lv_iconst (v := nI 1) hx hb dX3_add_55 (by decide) ?_
    refine lv_iadd hx hb dX3_add_56 ?_
    refine cv_i (show nI n + nI 1 = nI (n + 1) from nI_add n 1) ?_
    refine x_put X hw p18 0 rfl (Nat.le_of_ble_eq_true rfl) dX3_add_57 (fun H locs hw => ?_)
    have hw : WD D A s.heap [(t, .inr (3, [.ref te, .ref ts, .int (nI (n + 1))])), (te, .inl (cI, 16, .inl (iA (va_up en n ((o <<< 6) ||| i))))), (ts, .inl (cI, 17, .inl (iA (va_up st (n + 1) (anN ((st n) ||| o) i)))))] H locs := hw
    exact x_vret X hw (rfl) dX3_add_60
  · skip
    rw [nI_ltI (by omega) (by omega)] at c_6
    exact absurd hn16 c_6
set_option maxHeartbeats 4000000 in
set_option maxRecDepth 100000 in
theorem c_X3_removeLast (l : Launch) (D : va_G) (cI cZ : ClassId) (t : Nat) (te : Nat) (ts : Nat) (en : Nat → Nat) (st : Nat → Nat) (n : Nat) (hn0 : 0 < n) (hn : n ≤ 16) : MV l D cI cZ yX3_removeLast wsX3_removeLast ({ frames := 0, cells := 0, slots := 0, locals := 0 }) [.ref t] [(t, .inr (3, [.ref te, .ref ts, .int (nI n)])), (te, .inl (cI, 16, .inl (iA en))), (ts, .inl (cI, 17, .inl (iA st)))] 0 0 (fun w => w = [(t, .inr (3, [.ref te, .ref ts, .int (nI (n - 1))])), (te, .inl (cI, 16, .inl (iA en))), (ts, .inl (cI, 17, .inl (iA st)))]) := by
  refine MV.of (cc := cX3_removeLast) (maxL := 1) (ret := none) (own := RX3) (by decide) rfl rfl (Nat.le_of_ble_eq_true rfl) ?_
  intro pQ eQ s mQ args below meth cQ A X hnm hw ls hl
  obtain ⟨⟨hx, hb, hml, hown, hts⟩, hr, hlk, hK, hN, hA⟩ := id X
  have hl : lv_has ls 1 [(0, .ref t)] := hl
  have n3 : ∀ w ∈ wsX30, w ∈ wsX3_removeLast := by decide +kernel
  have f18 : FF args s RX3 wsX3_removeLast 18 3 2 := ⟨_, rfl, by decide, n3, hts (.fieldLink RX3 18 "AirSteps$Text" "size" "I") (by decide +kernel)⟩
  have p18 : FP args s RX3 wsX3_removeLast 18 3 2 := ⟨_, tyX3, rfl, by decide, n3, hts (.fieldLink RX3 18 "AirSteps$Text" "size" "I") (by decide +kernel), tyX3_ok, nmX3, rfl, by decide +kernel⟩
  refine lv_aload_n hx hb dX3_removeLast_0 rfl (lv_at hl 0 rfl) ?_
  refine x_get X hw f18 0 rfl rfl dX3_removeLast_1 ?_
  refine lv_if_le (tgt := 17) hx hb dX3_removeLast_4 (by decide) (fun c_4 => ?_) (fun c_4 => ?_)
  · skip
    rw [q_le0 (by omega)] at c_4
    exact absurd c_4 (by omega)
  · skip
    rw [q_le0 (by omega)] at c_4
    refine lv_aload_n hx hb dX3_removeLast_7 rfl (lv_at hl 0 rfl) ?_
    refine lv_dup hx hb dX3_removeLast_8 rfl ?_
    refine x_get X hw f18 0 rfl rfl dX3_removeLast_9 ?_
    refine lv_iconst (v := nI 1) hx hb dX3_removeLast_12 (by decide) ?_
    refine lv_isub hx hb dX3_removeLast_13 ?_
    refine cv_i (show nI n - nI 1 = nI (n - 1) from pk_sub (by first | omega | assumption)) ?_
    refine x_put X hw p18 0 rfl (Nat.le_of_ble_eq_true rfl) dX3_removeLast_14 (fun H locs hw => ?_)
    have hw : WD D A s.heap [(t, .inr (3, [.ref te, .ref ts, .int (nI (n - 1))])), (te, .inl (cI, 16, .inl (iA en))), (ts, .inl (cI, 17, .inl (iA st)))] H locs := hw
    exact x_vret X hw (rfl) dX3_removeLast_17
set_option maxHeartbeats 4000000 in
set_option maxRecDepth 100000 in
theorem c_X3_endsOf (l : Launch) (D : va_G) (cI cZ : ClassId) (t : Nat) (te : Nat) (ts : Nat) (en : Nat → Nat) (st : Nat → Nat) (n : Nat) (k : Nat) (hn : n ≤ 16) (hen : ∀ k, en k < 4096) (hst : ∀ k, st k < 64) (hk : k < n) : MI l D cI cZ yX3_endsOf wsX3_endsOf ({ frames := 1, cells := 0, slots := 0, locals := 21 }) [.ref t, .int (nI k)] [(t, .inr (3, [.ref te, .ref ts, .int (nI n)])), (te, .inl (cI, 16, .inl (iA en))), (ts, .inl (cI, 17, .inl (iA st)))] (fun r w => r = nI (en k) ∧ w = [(t, .inr (3, [.ref te, .ref ts, .int (nI n)])), (te, .inl (cI, 16, .inl (iA en))), (ts, .inl (cI, 17, .inl (iA st)))]) := by
  refine MI.of (cc := cX3_endsOf) (maxL := 2) (ret := (some .int)) (own := RX3) (by decide) rfl rfl (Nat.le_of_ble_eq_true rfl) ?_
  intro pQ eQ s mQ args below meth cQ A X hw ls hl
  obtain ⟨⟨hx, hb, hml, hown, hts⟩, hr, hlk, hK, hN, hA⟩ := id X
  have hl : lv_has ls 2 [(0, .ref t), (1, .int (nI k))] := hl
  have n3 : ∀ w ∈ wsX30, w ∈ wsX3_endsOf := by decide +kernel
  have f9 : FF args s RX3 wsX3_endsOf 9 3 0 := ⟨_, rfl, by decide, n3, hts (.fieldLink RX3 9 "AirSteps$Text" "ends" "[I") (by decide +kernel)⟩
  have f18 : FF args s RX3 wsX3_endsOf 18 3 2 := ⟨_, rfl, by decide, n3, hts (.fieldLink RX3 18 "AirSteps$Text" "size" "I") (by decide +kernel)⟩
  refine lv_iload_n hx hb dX3_endsOf_0 rfl (lv_at hl 1 rfl) ?_
  refine lv_aload_n hx hb dX3_endsOf_1 rfl (lv_at hl 0 rfl) ?_
  refine x_get X hw f18 0 rfl rfl dX3_endsOf_2 ?_
  refine x_callN (As := [.int (nI k), .int (nI n)]) (rest := []) (host := RX5) (n := 2) X hw hl.1 (c_X5_isBelow l D cI cZ (nI k) (nI n) ) gX3_endsOf_X5_isBelow_n26 rfl rfl rfl (List.mem_of_getElem? (i := 5) rfl) (by decide +kernel) (by decide +kernel) (by decide +kernel) ⟨Nat.le_of_ble_eq_true rfl, Nat.le_of_ble_eq_true rfl⟩ [] rfl rfl rfl (Nat.le_of_ble_eq_true rfl) dX3_endsOf_5 (by decide) (fun r w1 H locs hp hw1 => ?_)
  obtain ⟨rfl, rfl⟩ := hp
  have hw : WD D A s.heap [(t, .inr (3, [.ref te, .ref ts, .int (nI n)])), (te, .inl (cI, 16, .inl (iA en))), (ts, .inl (cI, 17, .inl (iA st)))] H locs := hw1 rfl
  refine lv_if_eq (tgt := 20) hx hb dX3_endsOf_8 (by decide) (fun c_8 => ?_) (fun c_8 => ?_)
  · skip
    rw [q_b0] at c_8; try simp only [Bool.not_eq_false, Bool.not_eq_true] at c_8
    rw [bel_nI (by omega) (by omega)] at c_8; simp at c_8; omega
  · skip
    rw [q_b0] at c_8; try simp only [Bool.not_eq_false, Bool.not_eq_true] at c_8
    refine lv_aload_n hx hb dX3_endsOf_11 rfl (lv_at hl 0 rfl) ?_
    refine x_get X hw f9 0 rfl rfl dX3_endsOf_12 ?_
    refine lv_iload_n hx hb dX3_endsOf_15 rfl (lv_at hl 1 rfl) ?_
    refine x_aldN X hw 1 rfl (by omega) (by omega) dX3_endsOf_16 ?_
    have hb_16 := hen k
    refine lv_goto (tgt := 21) hx hb dX3_endsOf_17 (by decide) ?_
    exact x_iret X hw (⟨(by first | rfl | omega | (simp [c_8]; done) | (simp_all; done)), rfl⟩) dX3_endsOf_21
set_option maxHeartbeats 4000000 in
set_option maxRecDepth 100000 in
theorem c_X3_stateAt (l : Launch) (D : va_G) (cI cZ : ClassId) (t : Nat) (te : Nat) (ts : Nat) (en : Nat → Nat) (st : Nat → Nat) (n : Nat) (k : Nat) (hn : n ≤ 16) (hen : ∀ k, en k < 4096) (hst : ∀ k, st k < 64) (hk : k < n) : MI l D cI cZ yX3_stateAt wsX3_stateAt ({ frames := 1, cells := 0, slots := 0, locals := 21 }) [.ref t, .int (nI k)] [(t, .inr (3, [.ref te, .ref ts, .int (nI n)])), (te, .inl (cI, 16, .inl (iA en))), (ts, .inl (cI, 17, .inl (iA st)))] (fun r w => r = nI (st k) ∧ w = [(t, .inr (3, [.ref te, .ref ts, .int (nI n)])), (te, .inl (cI, 16, .inl (iA en))), (ts, .inl (cI, 17, .inl (iA st)))]) := by
  refine MI.of (cc := cX3_stateAt) (maxL := 2) (ret := (some .int)) (own := RX3) (by decide) rfl rfl (Nat.le_of_ble_eq_true rfl) ?_
  intro pQ eQ s mQ args below meth cQ A X hw ls hl
  obtain ⟨⟨hx, hb, hml, hown, hts⟩, hr, hlk, hK, hN, hA⟩ := id X
  have hl : lv_has ls 2 [(0, .ref t), (1, .int (nI k))] := hl
  have n3 : ∀ w ∈ wsX30, w ∈ wsX3_stateAt := by decide +kernel
  have f15 : FF args s RX3 wsX3_stateAt 15 3 1 := ⟨_, rfl, by decide, n3, hts (.fieldLink RX3 15 "AirSteps$Text" "states" "[I") (by decide +kernel)⟩
  have f18 : FF args s RX3 wsX3_stateAt 18 3 2 := ⟨_, rfl, by decide, n3, hts (.fieldLink RX3 18 "AirSteps$Text" "size" "I") (by decide +kernel)⟩
  refine lv_iload_n hx hb dX3_stateAt_0 rfl (lv_at hl 1 rfl) ?_
  refine lv_aload_n hx hb dX3_stateAt_1 rfl (lv_at hl 0 rfl) ?_
  refine x_get X hw f18 0 rfl rfl dX3_stateAt_2 ?_
  refine x_callN (As := [.int (nI k), .int (nI n)]) (rest := []) (host := RX5) (n := 2) X hw hl.1 (c_X5_isBelow l D cI cZ (nI k) (nI n) ) gX3_stateAt_X5_isBelow_n26 rfl rfl rfl (List.mem_of_getElem? (i := 5) rfl) (by decide +kernel) (by decide +kernel) (by decide +kernel) ⟨Nat.le_of_ble_eq_true rfl, Nat.le_of_ble_eq_true rfl⟩ [] rfl rfl rfl (Nat.le_of_ble_eq_true rfl) dX3_stateAt_5 (by decide) (fun r w1 H locs hp hw1 => ?_)
  obtain ⟨rfl, rfl⟩ := hp
  have hw : WD D A s.heap [(t, .inr (3, [.ref te, .ref ts, .int (nI n)])), (te, .inl (cI, 16, .inl (iA en))), (ts, .inl (cI, 17, .inl (iA st)))] H locs := hw1 rfl
  refine lv_if_eq (tgt := 20) hx hb dX3_stateAt_8 (by decide) (fun c_8 => ?_) (fun c_8 => ?_)
  · skip
    rw [q_b0] at c_8; try simp only [Bool.not_eq_false, Bool.not_eq_true] at c_8
    rw [bel_nI (by omega) (by omega)] at c_8; simp at c_8; omega
  · skip
    rw [q_b0] at c_8; try simp only [Bool.not_eq_false, Bool.not_eq_true] at c_8
    refine lv_aload_n hx hb dX3_stateAt_11 rfl (lv_at hl 0 rfl) ?_
    refine x_get X hw f15 0 rfl rfl dX3_stateAt_12 ?_
    refine lv_iload_n hx hb dX3_stateAt_15 rfl (lv_at hl 1 rfl) ?_
    refine x_aldN X hw 2 rfl (by omega) (by omega) dX3_stateAt_16 ?_
    have hb_16 := hst k
    refine lv_goto (tgt := 21) hx hb dX3_stateAt_17 (by decide) ?_
    exact x_iret X hw (⟨(by first | rfl | omega | (simp [c_8]; done) | (simp_all; done)), rfl⟩) dX3_stateAt_21
set_option maxHeartbeats 4000000 in
set_option maxRecDepth 100000 in
theorem c_X3_trigger (l : Launch) (D : va_G) (cI cZ : ClassId) (t : Nat) (te : Nat) (ts : Nat) (en : Nat → Nat) (st : Nat → Nat) (n : Nat) (k : Nat) (hn : n ≤ 16) (hen : ∀ k, en k < 4096) (hst : ∀ k, st k < 64) (hk : k < n) : MI l D cI cZ yX3_trigger wsX3_trigger ({ frames := 2, cells := 0, slots := 0, locals := 42 }) [.ref t, .int (nI k)] [(t, .inr (3, [.ref te, .ref ts, .int (nI n)])), (te, .inl (cI, 16, .inl (iA en))), (ts, .inl (cI, 17, .inl (iA st)))] (fun r w => r = nI (en (pr n k)) ∧ w = [(t, .inr (3, [.ref te, .ref ts, .int (nI n)])), (te, .inl (cI, 16, .inl (iA en))), (ts, .inl (cI, 17, .inl (iA st)))]) := by
  refine MI.of (cc := cX3_trigger) (maxL := 2) (ret := (some .int)) (own := RX3) (by decide) rfl rfl (Nat.le_of_ble_eq_true rfl) ?_
  intro pQ eQ s mQ args below meth cQ A X hw ls hl
  obtain ⟨⟨hx, hb, hml, hown, hts⟩, hr, hlk, hK, hN, hA⟩ := id X
  have hl : lv_has ls 2 [(0, .ref t), (1, .int (nI k))] := hl
  have n3 : ∀ w ∈ wsX30, w ∈ wsX3_trigger := by decide +kernel
  have f18 : FF args s RX3 wsX3_trigger 18 3 2 := ⟨_, rfl, by decide, n3, hts (.fieldLink RX3 18 "AirSteps$Text" "size" "I") (by decide +kernel)⟩
  refine lv_aload_n hx hb dX3_trigger_0 rfl (lv_at hl 0 rfl) ?_
  refine lv_iload_n hx hb dX3_trigger_1 rfl (lv_at hl 1 rfl) ?_
  refine lv_if_ne (tgt := 14) hx hb dX3_trigger_2 (by decide) (fun c_2 => ?_) (fun c_2 => ?_)
  · skip
    rw [q_eq0 (by omega)] at c_2
    refine lv_iload_n hx hb dX3_trigger_14 rfl (lv_at hl 1 rfl) ?_
    refine lv_iconst (v := nI 1) hx hb dX3_trigger_15 (by decide) ?_
    refine lv_isub hx hb dX3_trigger_16 ?_
    refine cv_i (show nI k - nI 1 = nI (k - 1) from pk_sub (by first | omega | assumption)) ?_
    refine x_callV (As := [.int (nI (k - 1))]) (rest := []) X hw hl.1 (c_X3_endsOf l D cI cZ t te ts en st n (k - 1) (by first | assumption | omega) (by first | assumption | omega) (by first | assumption | omega) (by first | assumption | omega)) (cwV 1 hts gX3_trigger_X3_endsOf rfl rfl rfl (by decide +kernel) ⟨Nat.le_of_ble_eq_true rfl, Nat.le_of_ble_eq_true rfl⟩) [0, 1, 2] rfl rfl 0 rfl rfl rfl rfl (Nat.le_of_ble_eq_true rfl) dX3_trigger_17 (by decide) (fun r w1 H locs hp hw1 => ?_)
    obtain ⟨rfl, rfl⟩ := hp
    have hw : WD D A s.heap [(t, .inr (3, [.ref te, .ref ts, .int (nI n)])), (te, .inl (cI, 16, .inl (iA en))), (ts, .inl (cI, 17, .inl (iA st)))] H locs := hw1 rfl
    exact x_iret X hw (⟨(by simp [pr, c_2]), rfl⟩) dX3_trigger_20
  · skip
    rw [q_eq0 (by omega)] at c_2
    refine lv_aload_n hx hb dX3_trigger_5 rfl (lv_at hl 0 rfl) ?_
    refine x_get X hw f18 0 rfl rfl dX3_trigger_6 ?_
    refine lv_iconst (v := nI 1) hx hb dX3_trigger_9 (by decide) ?_
    refine lv_isub hx hb dX3_trigger_10 ?_
    refine cv_i (show nI n - nI 1 = nI (n - 1) from pk_sub (by first | omega | assumption)) ?_
    refine lv_goto (tgt := 17) hx hb dX3_trigger_11 (by decide) ?_
    refine x_callV (As := [.int (nI (n - 1))]) (rest := []) X hw hl.1 (c_X3_endsOf l D cI cZ t te ts en st n (n - 1) (by first | assumption | omega) (by first | assumption | omega) (by first | assumption | omega) (by first | assumption | omega)) (cwV 1 hts gX3_trigger_X3_endsOf rfl rfl rfl (by decide +kernel) ⟨Nat.le_of_ble_eq_true rfl, Nat.le_of_ble_eq_true rfl⟩) [0, 1, 2] rfl rfl 0 rfl rfl rfl rfl (Nat.le_of_ble_eq_true rfl) dX3_trigger_17 (by decide) (fun r w1 H locs hp hw1 => ?_)
    obtain ⟨rfl, rfl⟩ := hp
    have hw : WD D A s.heap [(t, .inr (3, [.ref te, .ref ts, .int (nI n)])), (te, .inl (cI, 16, .inl (iA en))), (ts, .inl (cI, 17, .inl (iA st)))] H locs := hw1 rfl
    exact x_iret X hw (⟨(by simp [pr, c_2]), rfl⟩) dX3_trigger_20
set_option maxHeartbeats 4000000 in
set_option maxRecDepth 100000 in
theorem c_X3_firstWrong (l : Launch) (D : va_G) (cI cZ : ClassId) (t : Nat) (te : Nat) (ts : Nat) (en : Nat → Nat) (st : Nat → Nat) (n : Nat) (hn : n ≤ 16) (hen : ∀ k, en k < 4096) (hst : ∀ k, st k < 64) : MI l D cI cZ yX3_firstWrong wsX3_firstWrong ({ frames := 2, cells := 0, slots := 0, locals := 41 }) [.ref t] [(t, .inr (3, [.ref te, .ref ts, .int (nI n)])), (te, .inl (cI, 16, .inl (iA en))), (ts, .inl (cI, 17, .inl (iA st)))] (fun r w => r = fwC en st n ∧ w = [(t, .inr (3, [.ref te, .ref ts, .int (nI n)])), (te, .inl (cI, 16, .inl (iA en))), (ts, .inl (cI, 17, .inl (iA st)))]) := by
  refine MI.of (cc := cX3_firstWrong) (maxL := 2) (ret := (some .int)) (own := RX3) (by decide) rfl rfl (Nat.le_of_ble_eq_true rfl) ?_
  intro pQ eQ s mQ args below meth cQ A X hw ls hl
  obtain ⟨⟨hx, hb, hml, hown, hts⟩, hr, hlk, hK, hN, hA⟩ := id X
  have hl : lv_has ls 2 [(0, .ref t)] := hl
  have n3 : ∀ w ∈ wsX30, w ∈ wsX3_firstWrong := by decide +kernel
  have f9 : FF args s RX3 wsX3_firstWrong 9 3 0 := ⟨_, rfl, by decide, n3, hts (.fieldLink RX3 9 "AirSteps$Text" "ends" "[I") (by decide +kernel)⟩
  have f15 : FF args s RX3 wsX3_firstWrong 15 3 1 := ⟨_, rfl, by decide, n3, hts (.fieldLink RX3 15 "AirSteps$Text" "states" "[I") (by decide +kernel)⟩
  have f18 : FF args s RX3 wsX3_firstWrong 18 3 2 := ⟨_, rfl, by decide, n3, hts (.fieldLink RX3 18 "AirSteps$Text" "size" "I") (by decide +kernel)⟩
  refine lv_iconst (v := nI 0) hx hb dX3_firstWrong_0 (by decide) ?_
  refine lv_istore_n (lv' := [(1, .int (nI 0)), (0, .ref t)]) hx hb dX3_firstWrong_1 rfl hl (by decide) rfl (fun ls hl => ?_)
  refine wl (α := Nat) (nL := 2) (fun a => n - a) (fun a => (a ≤ n) ∧ (∀ j, j < a → wr en st j = false)) (fun a => [(t, .inr (3, [.ref te, .ref ts, .int (nI n)])), (te, .inl (cI, 16, .inl (iA en))), (ts, .inl (cI, 17, .inl (iA st)))]) (fun a => [(1, .int (nI a)), (0, .ref t)]) ?_ 0 ⟨(show 0 ≤ n from by omega), (show ∀ j, j < 0 → wr en st j = false from fun j hj => absurd hj (Nat.not_lt_zero j))⟩ _ _ _ hw (lv_sub hl [0, 1] rfl)
  rintro i ⟨hi, hq⟩ H locs ls hw hl ih_2
  have hi : i ≤ n := hi
  have hq : ∀ j, j < i → wr en st j = false := hq
  have hw : WD D A s.heap [(t, .inr (3, [.ref te, .ref ts, .int (nI n)])), (te, .inl (cI, 16, .inl (iA en))), (ts, .inl (cI, 17, .inl (iA st)))] H locs := hw
  have hl : lv_has ls 2 [(1, .int (nI i)), (0, .ref t)] := hl
  refine lv_iload_n hx hb dX3_firstWrong_2 rfl (lv_at hl 0 rfl) ?_
  refine lv_aload_n hx hb dX3_firstWrong_3 rfl (lv_at hl 1 rfl) ?_
  refine x_get X hw f18 0 rfl rfl dX3_firstWrong_4 ?_
  refine lv_icmp_ge (tgt := 37) hx hb dX3_firstWrong_7 (by decide) (fun c_7 => ?_) (fun c_7 => ?_)
  · skip
    rw [nI_leI (by omega) (by omega)] at c_7
    refine lv_aload_n hx hb dX3_firstWrong_37 rfl (lv_at hl 1 rfl) ?_
    refine x_get X hw f18 0 rfl rfl dX3_firstWrong_38 ?_
    refine lv_if_eq (tgt := 56) hx hb dX3_firstWrong_41 (by decide) (fun c_41 => ?_) (fun c_41 => ?_)
    · skip
      rw [q_eq0 (by omega)] at c_41
      refine lv_aload_n hx hb dX3_firstWrong_56 rfl (lv_at hl 1 rfl) ?_
      refine x_get X hw f18 0 rfl rfl dX3_firstWrong_57 ?_
      refine lv_goto (tgt := 64) hx hb dX3_firstWrong_60 (by decide) ?_
      exact x_iret X hw (⟨(by unfold fwC; rw [fs_eq (k := n) (by omega) (fun j hj => hq j (by omega)) (Or.inl rfl), if_neg (by omega)]; simp [*]), rfl⟩) dX3_firstWrong_64
    · skip
      rw [q_eq0 (by omega)] at c_41
      refine lv_aload_n hx hb dX3_firstWrong_44 rfl (lv_at hl 1 rfl) ?_
      refine x_get X hw f15 0 rfl rfl dX3_firstWrong_45 ?_
      refine lv_aload_n hx hb dX3_firstWrong_48 rfl (lv_at hl 1 rfl) ?_
      refine x_get X hw f18 0 rfl rfl dX3_firstWrong_49 ?_
      refine x_aldN X hw 2 rfl (by omega) (by omega) dX3_firstWrong_52 ?_
      have hb_52 := hst n
      refine lv_if_eq (tgt := 63) hx hb dX3_firstWrong_53 (by decide) (fun c_53 => ?_) (fun c_53 => ?_)
      · skip
        rw [q_eq0 (by omega)] at c_53
        refine lv_iconst (v := (-1)) hx hb dX3_firstWrong_63 (by decide) ?_
        exact x_iret X hw (⟨(by unfold fwC; rw [fs_eq (k := n) (by omega) (fun j hj => hq j (by omega)) (Or.inl rfl), if_neg (by omega)]; simp [*]), rfl⟩) dX3_firstWrong_64
      · skip
        rw [q_eq0 (by omega)] at c_53
        refine lv_aload_n hx hb dX3_firstWrong_56 rfl (lv_at hl 1 rfl) ?_
        refine x_get X hw f18 0 rfl rfl dX3_firstWrong_57 ?_
        refine lv_goto (tgt := 64) hx hb dX3_firstWrong_60 (by decide) ?_
        exact x_iret X hw (⟨(by unfold fwC; rw [fs_eq (k := n) (by omega) (fun j hj => hq j (by omega)) (Or.inl rfl), if_neg (by omega)]; simp [*]), rfl⟩) dX3_firstWrong_64
  · skip
    rw [nI_leI (by omega) (by omega)] at c_7
    refine lv_aload_n hx hb dX3_firstWrong_10 rfl (lv_at hl 1 rfl) ?_
    refine x_get X hw f9 0 rfl rfl dX3_firstWrong_11 ?_
    refine lv_iload_n hx hb dX3_firstWrong_14 rfl (lv_at hl 0 rfl) ?_
    refine x_aldN X hw 1 rfl (by omega) (by omega) dX3_firstWrong_15 ?_
    have hb_15 := hen i
    refine lv_aload_n hx hb dX3_firstWrong_16 rfl (lv_at hl 1 rfl) ?_
    refine x_get X hw f15 0 rfl rfl dX3_firstWrong_17 ?_
    refine lv_iload_n hx hb dX3_firstWrong_20 rfl (lv_at hl 0 rfl) ?_
    refine x_aldN X hw 2 rfl (by omega) (by omega) dX3_firstWrong_21 ?_
    have hb_21 := hst i
    refine x_callN (As := [.int (nI (st i))]) (rest := [.int (nI (en i))]) (host := RX5) (n := 1) X hw hl.1 (c_X5_sensorsOn l D cI cZ (st i) ) gX3_firstWrong_X5_sensorsOn_n38 rfl rfl rfl (List.mem_of_getElem? (i := 4) rfl) (by decide +kernel) (by decide +kernel) (by decide +kernel) ⟨Nat.le_of_ble_eq_true rfl, Nat.le_of_ble_eq_true rfl⟩ [] rfl rfl rfl (Nat.le_of_ble_eq_true rfl) dX3_firstWrong_22 (by decide) (fun r w1 H locs hp hw1 => ?_)
    obtain ⟨rfl, rfl⟩ := hp
    have hw : WD D A s.heap [(t, .inr (3, [.ref te, .ref ts, .int (nI n)])), (te, .inl (cI, 16, .inl (iA en))), (ts, .inl (cI, 17, .inl (iA st)))] H locs := hw1 rfl
    refine lv_iand hx hb dX3_firstWrong_25 ?_
    refine cv_i (show nI (en i) &&& nI (sen (st i)) = nI ((en i) &&& (sen (st i))) from q_and (en i) (sen (st i))) ?_
    refine lv_if_eq (tgt := 31) hx hb dX3_firstWrong_26 (by decide) (fun c_26 => ?_) (fun c_26 => ?_)
    · skip
      rw [q_eq0 (Nat.lt_of_le_of_lt Nat.and_le_left (by omega))] at c_26
      refine lv_iinc (v := nI (i + 1)) (lv' := [(1, .int (nI (i + 1))), (0, .ref t)]) hx hb dX3_firstWrong_31 hl (k := 0) rfl (nI_add i 1) (by decide) rfl (fun ls hl => ?_)
      refine lv_goto (tgt := 2) hx hb dX3_firstWrong_34 (by decide) ?_
      exact ih_2 (i + 1) (by show n - (i + 1) < n - i; omega) ⟨(show (i + 1) ≤ n from by omega), (show ∀ j, j < (i + 1) → wr en st j = false from lt_snoc hq (by simp [wr, c_26]))⟩ _ _ _ hw (lv_sub hl [0, 1] rfl)
    · skip
      rw [q_eq0 (Nat.lt_of_le_of_lt Nat.and_le_left (by omega))] at c_26
      refine lv_iload_n hx hb dX3_firstWrong_29 rfl (lv_at hl 0 rfl) ?_
      exact x_iret X hw (⟨(by unfold fwC; rw [fs_eq (k := i) (by omega) hq (Or.inr (by simp [wr, c_26])), if_pos (by omega)]), rfl⟩) dX3_firstWrong_30
set_option maxHeartbeats 4000000 in
set_option maxRecDepth 100000 in
theorem c_X3_isSound (l : Launch) (D : va_G) (cI cZ : ClassId) (t : Nat) (te : Nat) (ts : Nat) (en : Nat → Nat) (st : Nat → Nat) (n : Nat) (hn : n ≤ 16) (hen : ∀ k, en k < 4096) (hst : ∀ k, st k < 64) : MI l D cI cZ yX3_isSound wsX3_isSound ({ frames := 3, cells := 0, slots := 0, locals := 62 }) [.ref t] [(t, .inr (3, [.ref te, .ref ts, .int (nI n)])), (te, .inl (cI, 16, .inl (iA en))), (ts, .inl (cI, 17, .inl (iA st)))] (fun r w => r = bI (decide (fwC en st n = -1)) ∧ w = [(t, .inr (3, [.ref te, .ref ts, .int (nI n)])), (te, .inl (cI, 16, .inl (iA en))), (ts, .inl (cI, 17, .inl (iA st)))]) := by
  refine MI.of (cc := cX3_isSound) (maxL := 1) (ret := (some .boolean)) (own := RX3) (by decide) rfl rfl (Nat.le_of_ble_eq_true rfl) ?_
  intro pQ eQ s mQ args below meth cQ A X hw ls hl
  obtain ⟨⟨hx, hb, hml, hown, hts⟩, hr, hlk, hK, hN, hA⟩ := id X
  have hl : lv_has ls 1 [(0, .ref t)] := hl
  refine lv_aload_n hx hb dX3_isSound_0 rfl (lv_at hl 0 rfl) ?_
  refine x_callV (As := []) (rest := []) X hw hl.1 (c_X3_firstWrong l D cI cZ t te ts en st n (by first | assumption | omega) (by first | assumption | omega) (by first | assumption | omega)) (cwV 0 hts gX3_isSound_X3_firstWrong rfl rfl rfl (by decide +kernel) ⟨Nat.le_of_ble_eq_true rfl, Nat.le_of_ble_eq_true rfl⟩) [0, 1, 2] rfl rfl 0 rfl rfl rfl rfl (Nat.le_of_ble_eq_true rfl) dX3_isSound_1 (by decide) (fun r w1 H locs hp hw1 => ?_)
  obtain ⟨rfl, rfl⟩ := hp
  have hw : WD D A s.heap [(t, .inr (3, [.ref te, .ref ts, .int (nI n)])), (te, .inl (cI, 16, .inl (iA en))), (ts, .inl (cI, 17, .inl (iA st)))] H locs := hw1 rfl
  refine lv_iconst (v := (-1)) hx hb dX3_isSound_4 (by decide) ?_
  refine lv_icmp_ne (tgt := 12) hx hb dX3_isSound_5 (by decide) (fun c_5 => ?_) (fun c_5 => ?_)
  · skip
    refine lv_iconst (v := nI 0) hx hb dX3_isSound_12 (by decide) ?_
    refine cv_i (show nI 0 = bI false from by decide) ?_
    exact x_zret X hw (⟨(by simp [c_5]), rfl⟩) dX3_isSound_13
  · skip
    refine lv_iconst (v := nI 1) hx hb dX3_isSound_8 (by decide) ?_
    refine lv_goto (tgt := 13) hx hb dX3_isSound_9 (by decide) ?_
    refine cv_i (show nI 1 = bI true from by decide) ?_
    exact x_zret X hw (⟨(by simp [c_5]), rfl⟩) dX3_isSound_13
set_option maxHeartbeats 4000000 in
set_option maxRecDepth 100000 in
theorem c_X3_alike (l : Launch) (D : va_G) (cI cZ : ClassId) (t : Nat) (te : Nat) (ts : Nat) (en : Nat → Nat) (st : Nat → Nat) (n : Nat) (v : Nat) (hn : n ≤ 16) (hen : ∀ k, en k < 4096) (hst : ∀ k, st k < 64) (hv : v < 64) : MI l D cI cZ yX3_alike wsX3_alike ({ frames := 0, cells := 0, slots := 0, locals := 0 }) [.ref t, .int (nI v)] [(t, .inr (3, [.ref te, .ref ts, .int (nI n)])), (te, .inl (cI, 16, .inl (iA en))), (ts, .inl (cI, 17, .inl (iA st)))] (fun r w => r = nI (alk st v n) ∧ w = [(t, .inr (3, [.ref te, .ref ts, .int (nI n)])), (te, .inl (cI, 16, .inl (iA en))), (ts, .inl (cI, 17, .inl (iA st)))]) := by
  refine MI.of (cc := cX3_alike) (maxL := 4) (ret := (some .int)) (own := RX3) (by decide) rfl rfl (Nat.le_of_ble_eq_true rfl) ?_
  intro pQ eQ s mQ args below meth cQ A X hw ls hl
  obtain ⟨⟨hx, hb, hml, hown, hts⟩, hr, hlk, hK, hN, hA⟩ := id X
  have hl : lv_has ls 4 [(0, .ref t), (1, .int (nI v))] := hl
  have n3 : ∀ w ∈ wsX30, w ∈ wsX3_alike := by decide +kernel
  have f15 : FF args s RX3 wsX3_alike 15 3 1 := ⟨_, rfl, by decide, n3, hts (.fieldLink RX3 15 "AirSteps$Text" "states" "[I") (by decide +kernel)⟩
  have f18 : FF args s RX3 wsX3_alike 18 3 2 := ⟨_, rfl, by decide, n3, hts (.fieldLink RX3 18 "AirSteps$Text" "size" "I") (by decide +kernel)⟩
  refine lv_iconst (v := nI 0) hx hb dX3_alike_0 (by decide) ?_
  refine lv_istore_n (lv' := [(2, .int (nI 0)), (0, .ref t), (1, .int (nI v))]) hx hb dX3_alike_1 rfl hl (by decide) rfl (fun ls hl => ?_)
  refine lv_iconst (v := nI 0) hx hb dX3_alike_2 (by decide) ?_
  refine lv_istore_n (lv' := [(3, .int (nI 0)), (2, .int (nI 0)), (0, .ref t), (1, .int (nI v))]) hx hb dX3_alike_3 rfl hl (by decide) rfl (fun ls hl => ?_)
  refine wl (α := Nat × Nat) (nL := 4) (fun a => n - a.2) (fun a => (a.2 ≤ n) ∧ (a.1 = alk st v a.2)) (fun a => [(t, .inr (3, [.ref te, .ref ts, .int (nI n)])), (te, .inl (cI, 16, .inl (iA en))), (ts, .inl (cI, 17, .inl (iA st)))]) (fun a => [(3, .int (nI a.2)), (2, .int (nI a.1)), (0, .ref t), (1, .int (nI v))]) ?_ (0, 0) ⟨(show 0 ≤ n from by omega), (show 0 = alk st v 0 from rfl)⟩ _ _ _ hw (lv_sub hl [0, 1, 2, 3] rfl)
  rintro ⟨a, i⟩ ⟨hi, ha⟩ H locs ls hw hl ih_4
  have hi : i ≤ n := hi
  have ha : a = alk st v i := ha
  have hw : WD D A s.heap [(t, .inr (3, [.ref te, .ref ts, .int (nI n)])), (te, .inl (cI, 16, .inl (iA en))), (ts, .inl (cI, 17, .inl (iA st)))] H locs := hw
  have hl : lv_has ls 4 [(3, .int (nI i)), (2, .int (nI a)), (0, .ref t), (1, .int (nI v))] := hl
  refine lv_iload_n hx hb dX3_alike_4 rfl (lv_at hl 0 rfl) ?_
  refine lv_aload_n hx hb dX3_alike_5 rfl (lv_at hl 2 rfl) ?_
  refine x_get X hw f18 0 rfl rfl dX3_alike_6 ?_
  refine lv_icmp_ge (tgt := 31) hx hb dX3_alike_9 (by decide) (fun c_9 => ?_) (fun c_9 => ?_)
  · skip
    rw [nI_leI (by omega) (by omega)] at c_9
    refine lv_iload_n hx hb dX3_alike_31 rfl (lv_at hl 1 rfl) ?_
    exact x_iret X hw (⟨(by rw [ha, show i = n by omega]), rfl⟩) dX3_alike_32
  · skip
    rw [nI_leI (by omega) (by omega)] at c_9
    refine lv_aload_n hx hb dX3_alike_12 rfl (lv_at hl 2 rfl) ?_
    refine x_get X hw f15 0 rfl rfl dX3_alike_13 ?_
    refine lv_iload_n hx hb dX3_alike_16 rfl (lv_at hl 0 rfl) ?_
    refine x_aldN X hw 2 rfl (by omega) (by omega) dX3_alike_17 ?_
    have hb_17 := hst i
    refine lv_iload_n hx hb dX3_alike_18 rfl (lv_at hl 3 rfl) ?_
    refine lv_icmp_ne (tgt := 25) hx hb dX3_alike_19 (by decide) (fun c_19 => ?_) (fun c_19 => ?_)
    · skip
      rw [nI_eq (by omega) (by omega)] at c_19
      refine lv_iinc (v := nI (i + 1)) (lv' := [(3, .int (nI (i + 1))), (2, .int (nI a)), (0, .ref t), (1, .int (nI v))]) hx hb dX3_alike_25 hl (k := 0) rfl (nI_add i 1) (by decide) rfl (fun ls hl => ?_)
      refine lv_goto (tgt := 4) hx hb dX3_alike_28 (by decide) ?_
      exact ih_4 (a, i + 1) (by show n - (i + 1) < n - i; omega) ⟨(show (i + 1) ≤ n from by omega), (show a = alk st v (i + 1) from by rw [ha]; simp [alk, fo, c_19])⟩ _ _ _ hw (lv_sub hl [0, 1, 2, 3] rfl)
    · skip
      rw [nI_eq (by omega) (by omega)] at c_19
      refine lv_iinc (v := nI (a + 1)) (lv' := [(2, .int (nI (a + 1))), (3, .int (nI i)), (0, .ref t), (1, .int (nI v))]) hx hb dX3_alike_22 hl (k := 1) rfl (nI_add a 1) (by decide) rfl (fun ls hl => ?_)
      refine lv_iinc (v := nI (i + 1)) (lv' := [(3, .int (nI (i + 1))), (2, .int (nI (a + 1))), (0, .ref t), (1, .int (nI v))]) hx hb dX3_alike_25 hl (k := 1) rfl (nI_add i 1) (by decide) rfl (fun ls hl => ?_)
      refine lv_goto (tgt := 4) hx hb dX3_alike_28 (by decide) ?_
      exact ih_4 (a + 1, i + 1) (by show n - (i + 1) < n - i; omega) ⟨(show (i + 1) ≤ n from by omega), (show (a + 1) = alk st v (i + 1) from by rw [ha]; simp [alk, fo, c_19])⟩ _ _ _ hw (lv_sub hl [0, 1, 2, 3] rfl)
set_option maxHeartbeats 4000000 in
set_option maxRecDepth 100000 in
theorem c_X3_mostAlike (l : Launch) (D : va_G) (cI cZ : ClassId) (t : Nat) (te : Nat) (ts : Nat) (en : Nat → Nat) (st : Nat → Nat) (n : Nat) (hn : n ≤ 16) (hen : ∀ k, en k < 4096) (hst : ∀ k, st k < 64) : MI l D cI cZ yX3_mostAlike wsX3_mostAlike ({ frames := 1, cells := 0, slots := 0, locals := 23 }) [.ref t] [(t, .inr (3, [.ref te, .ref ts, .int (nI n)])), (te, .inl (cI, 16, .inl (iA en))), (ts, .inl (cI, 17, .inl (iA st)))] (fun r w => r = nI (mal st n n) ∧ w = [(t, .inr (3, [.ref te, .ref ts, .int (nI n)])), (te, .inl (cI, 16, .inl (iA en))), (ts, .inl (cI, 17, .inl (iA st)))]) := by
  refine MI.of (cc := cX3_mostAlike) (maxL := 3) (ret := (some .int)) (own := RX3) (by decide) rfl rfl (Nat.le_of_ble_eq_true rfl) ?_
  intro pQ eQ s mQ args below meth cQ A X hw ls hl
  obtain ⟨⟨hx, hb, hml, hown, hts⟩, hr, hlk, hK, hN, hA⟩ := id X
  have hl : lv_has ls 3 [(0, .ref t)] := hl
  have n3 : ∀ w ∈ wsX30, w ∈ wsX3_mostAlike := by decide +kernel
  have f15 : FF args s RX3 wsX3_mostAlike 15 3 1 := ⟨_, rfl, by decide, n3, hts (.fieldLink RX3 15 "AirSteps$Text" "states" "[I") (by decide +kernel)⟩
  have f18 : FF args s RX3 wsX3_mostAlike 18 3 2 := ⟨_, rfl, by decide, n3, hts (.fieldLink RX3 18 "AirSteps$Text" "size" "I") (by decide +kernel)⟩
  refine lv_iconst (v := nI 0) hx hb dX3_mostAlike_0 (by decide) ?_
  refine lv_istore_n (lv' := [(1, .int (nI 0)), (0, .ref t)]) hx hb dX3_mostAlike_1 rfl hl (by decide) rfl (fun ls hl => ?_)
  refine lv_iconst (v := nI 0) hx hb dX3_mostAlike_2 (by decide) ?_
  refine lv_istore_n (lv' := [(2, .int (nI 0)), (1, .int (nI 0)), (0, .ref t)]) hx hb dX3_mostAlike_3 rfl hl (by decide) rfl (fun ls hl => ?_)
  refine wl (α := Nat × Nat) (nL := 3) (fun a => n - a.2) (fun a => (a.2 ≤ n) ∧ (a.1 = mal st n a.2) ∧ (a.1 ≤ 16)) (fun a => [(t, .inr (3, [.ref te, .ref ts, .int (nI n)])), (te, .inl (cI, 16, .inl (iA en))), (ts, .inl (cI, 17, .inl (iA st)))]) (fun a => [(2, .int (nI a.2)), (1, .int (nI a.1)), (0, .ref t)]) ?_ (0, 0) ⟨(show 0 ≤ n from by omega), (show 0 = mal st n 0 from rfl), (show 0 ≤ 16 from by omega)⟩ _ _ _ hw (lv_sub hl [0, 1, 2] rfl)
  rintro ⟨a, i⟩ ⟨hi, ha, hab⟩ H locs ls hw hl ih_4
  have hi : i ≤ n := hi
  have ha : a = mal st n i := ha
  have hab : a ≤ 16 := hab
  have hw : WD D A s.heap [(t, .inr (3, [.ref te, .ref ts, .int (nI n)])), (te, .inl (cI, 16, .inl (iA en))), (ts, .inl (cI, 17, .inl (iA st)))] H locs := hw
  have hl : lv_has ls 3 [(2, .int (nI i)), (1, .int (nI a)), (0, .ref t)] := hl
  refine lv_iload_n hx hb dX3_mostAlike_4 rfl (lv_at hl 0 rfl) ?_
  refine lv_aload_n hx hb dX3_mostAlike_5 rfl (lv_at hl 2 rfl) ?_
  refine x_get X hw f18 0 rfl rfl dX3_mostAlike_6 ?_
  refine lv_icmp_ge (tgt := 33) hx hb dX3_mostAlike_9 (by decide) (fun c_9 => ?_) (fun c_9 => ?_)
  · skip
    rw [nI_leI (by omega) (by omega)] at c_9
    refine lv_iload_n hx hb dX3_mostAlike_33 rfl (lv_at hl 1 rfl) ?_
    exact x_iret X hw (⟨(by rw [ha, show i = n by omega]), rfl⟩) dX3_mostAlike_34
  · skip
    rw [nI_leI (by omega) (by omega)] at c_9
    refine lv_iload_n hx hb dX3_mostAlike_12 rfl (lv_at hl 1 rfl) ?_
    refine lv_aload_n hx hb dX3_mostAlike_13 rfl (lv_at hl 2 rfl) ?_
    refine lv_aload_n hx hb dX3_mostAlike_14 rfl (lv_at hl 2 rfl) ?_
    refine x_get X hw f15 0 rfl rfl dX3_mostAlike_15 ?_
    refine lv_iload_n hx hb dX3_mostAlike_18 rfl (lv_at hl 0 rfl) ?_
    refine x_aldN X hw 2 rfl (by omega) (by omega) dX3_mostAlike_19 ?_
    have hb_19 := hst i
    refine x_callV (As := [.int (nI (st i))]) (rest := [.int (nI a)]) X hw hl.1 (c_X3_alike l D cI cZ t te ts en st n (st i) (by first | assumption | omega) (by first | assumption | omega) (by first | assumption | omega) (by first | assumption | omega)) (cwV 1 hts gX3_mostAlike_X3_alike rfl rfl rfl (by decide +kernel) ⟨Nat.le_of_ble_eq_true rfl, Nat.le_of_ble_eq_true rfl⟩) [0, 1, 2] rfl rfl 0 rfl rfl rfl rfl (Nat.le_of_ble_eq_true rfl) dX3_mostAlike_20 (by decide) (fun r w1 H locs hp hw1 => ?_)
    obtain ⟨rfl, rfl⟩ := hp
    have hw : WD D A s.heap [(t, .inr (3, [.ref te, .ref ts, .int (nI n)])), (te, .inl (cI, 16, .inl (iA en))), (ts, .inl (cI, 17, .inl (iA st)))] H locs := hw1 rfl
    have hal := alk_le st (st i) n
    refine va_mmax hx hb (by rw [hml]; exact hl.1.symm) hown (hts (.methodLink RX3 44 Lib.Math.max.name) (by decide +kernel)) (hts (.static Lib.Math.max.name) (by decide +kernel)) (hts (.initialized "java/lang/Math") (by decide +kernel)) (hts (.code Lib.Math.max.name Lib.Math.max.code 2 (some .int)) (by decide +kernel)) (by decide) (by decide) (by decide) (by decide) dX3_mostAlike_23 ?_
    refine cv_i (show (if nI a < nI (alk st (st i) n) then nI (alk st (st i) n) else nI a) = nI (max a (alk st (st i) n)) from q_max (by omega) (by omega)) ?_
    refine lv_istore_n (lv' := [(1, .int (nI (max a (alk st (st i) n)))), (2, .int (nI i)), (0, .ref t)]) hx hb dX3_mostAlike_26 rfl hl (by decide) rfl (fun ls hl => ?_)
    refine lv_iinc (v := nI (i + 1)) (lv' := [(2, .int (nI (i + 1))), (1, .int (nI (max a (alk st (st i) n)))), (0, .ref t)]) hx hb dX3_mostAlike_27 hl (k := 1) rfl (nI_add i 1) (by decide) rfl (fun ls hl => ?_)
    refine lv_goto (tgt := 4) hx hb dX3_mostAlike_30 (by decide) ?_
    exact ih_4 (max a (alk st (st i) n), i + 1) (by show n - (i + 1) < n - i; omega) ⟨(show (i + 1) ≤ n from by omega), (show (max a (alk st (st i) n)) = mal st n (i + 1) from by rw [ha]; rfl), (show (max a (alk st (st i) n)) ≤ 16 from by omega)⟩ _ _ _ hw (lv_sub hl [0, 1, 2] rfl)
end
section
/-! ===== AirSteps.Paces ===== -/
def lon (tk : Nat → Nat) (e i : Nat) : Nat := fo (fun i a => if e.testBit i then max a (tk i) else a) 0 i
theorem lon_lt {tk : Nat → Nat} (h : ∀ k, tk k < 101) (e : Nat) : ∀ i : Nat, lon tk e i < 101
  | 0 => by show 0 < 101; decide
  | i + 1 => by
    have h1 := lon_lt h e i
    have h2 := h i
    show (if e.testBit i then max (lon tk e i) (tk i) else lon tk e i) < 101
    split <;> omega
def sumP (tk en : Nat → Nat) (i : Nat) : Nat := fo (fun k a => a + lon tk (en k) 12) 0 i
def slo (tk en : Nat → Nat) (i : Nat) : Int32 × Nat := fo (fun k a => if a.2 < lon tk (en k) 12 then (nI k, lon tk (en k) 12) else a) (-1, 0) i
set_option maxHeartbeats 4000000 in
set_option maxRecDepth 100000 in
theorem c_X2_put (l : Launch) (D : va_G) (cI cZ : ClassId) (pa : Nat) (pl : Nat) (pm : Nat) (le : Nat → Nat) (mo : Nat → Nat) (k : Nat) (a : Nat) (b : Nat) (hk : k < 12) : MV l D cI cZ yX2_put wsX2_put ({ frames := 1, cells := 0, slots := 0, locals := 21 }) [.ref pa, .int (nI k), .int (nI a), .int (nI b)] [(pa, .inr (2, [.ref pl, .ref pm])), (pl, .inl (cI, 12, .inl (iA le))), (pm, .inl (cI, 12, .inl (iA mo)))] 0 0 (fun w => w = [(pa, .inr (2, [.ref pl, .ref pm])), (pl, .inl (cI, 12, .inl (iA (va_up le k a)))), (pm, .inl (cI, 12, .inl (iA (va_up mo k b))))]) := by
  refine MV.of (cc := cX2_put) (maxL := 4) (ret := none) (own := RX2) (by decide) rfl rfl (Nat.le_of_ble_eq_true rfl) ?_
  intro pQ eQ s mQ args below meth cQ A X hnm hw ls hl
  obtain ⟨⟨hx, hb, hml, hown, hts⟩, hr, hlk, hK, hN, hA⟩ := id X
  have hl : lv_has ls 4 [(0, .ref pa), (1, .int (nI k)), (2, .int (nI a)), (3, .int (nI b))] := hl
  have n2 : ∀ w ∈ wsX20, w ∈ wsX2_put := by decide +kernel
  have f9 : FF args s RX2 wsX2_put 9 2 0 := ⟨_, rfl, by decide, n2, hts (.fieldLink RX2 9 "AirSteps$Paces" "least" "[I") (by decide +kernel)⟩
  have f15 : FF args s RX2 wsX2_put 15 2 1 := ⟨_, rfl, by decide, n2, hts (.fieldLink RX2 15 "AirSteps$Paces" "most" "[I") (by decide +kernel)⟩
  refine lv_iload_n hx hb dX2_put_0 rfl (lv_at hl 1 rfl) ?_
  refine lv_bipush (v := nI 12) hx hb dX2_put_1 (by decide) ?_
  refine x_callN (As := [.int (nI k), .int (nI 12)]) (rest := []) (host := RX5) (n := 2) X hw hl.1 (c_X5_isBelow l D cI cZ (nI k) (nI 12) ) gX2_put_X5_isBelow_n18 rfl rfl rfl (List.mem_of_getElem? (i := 8) rfl) (by decide +kernel) (by decide +kernel) (by decide +kernel) ⟨Nat.le_of_ble_eq_true rfl, Nat.le_of_ble_eq_true rfl⟩ [] rfl rfl rfl (Nat.le_of_ble_eq_true rfl) dX2_put_3 (by decide) (fun r w1 H locs hp hw1 => ?_)
  obtain ⟨rfl, rfl⟩ := hp
  have hw : WD D A s.heap [(pa, .inr (2, [.ref pl, .ref pm])), (pl, .inl (cI, 12, .inl (iA le))), (pm, .inl (cI, 12, .inl (iA mo)))] H locs := hw1 rfl
  refine lv_if_ne (tgt := 10) hx hb dX2_put_6 (by decide) (fun c_6 => ?_) (fun c_6 => ?_)
  · skip
    rw [q_b0] at c_6; try simp only [Bool.not_eq_false, Bool.not_eq_true] at c_6
    refine lv_aload_n hx hb dX2_put_10 rfl (lv_at hl 0 rfl) ?_
    refine x_get X hw f9 0 rfl rfl dX2_put_11 ?_
    refine lv_iload_n hx hb dX2_put_14 rfl (lv_at hl 1 rfl) ?_
    refine lv_iload_n hx hb dX2_put_15 rfl (lv_at hl 2 rfl) ?_
    refine x_astN X hw 1 rfl (by omega) (by omega) dX2_put_16 (fun H locs hw => ?_)
    have hw : WD D A s.heap [(pa, .inr (2, [.ref pl, .ref pm])), (pl, .inl (cI, 12, .inl (iA (va_up le k a)))), (pm, .inl (cI, 12, .inl (iA mo)))] H locs := hw
    refine lv_aload_n hx hb dX2_put_17 rfl (lv_at hl 0 rfl) ?_
    refine x_get X hw f15 0 rfl rfl dX2_put_18 ?_
    refine lv_iload_n hx hb dX2_put_21 rfl (lv_at hl 1 rfl) ?_
    refine lv_iload_n hx hb dX2_put_22 rfl (lv_at hl 3 rfl) ?_
    refine x_astN X hw 2 rfl (by omega) (by omega) dX2_put_23 (fun H locs hw => ?_)
    have hw : WD D A s.heap [(pa, .inr (2, [.ref pl, .ref pm])), (pl, .inl (cI, 12, .inl (iA (va_up le k a)))), (pm, .inl (cI, 12, .inl (iA (va_up mo k b))))] H locs := hw
    exact x_vret X hw (rfl) dX2_put_24
  · skip
    rw [q_b0] at c_6; try simp only [Bool.not_eq_false, Bool.not_eq_true] at c_6
    rw [bel_nI (by omega) (by omega)] at c_6; simp at c_6; omega
set_option maxHeartbeats 4000000 in
set_option maxRecDepth 100000 in
theorem c_X2_longest (l : Launch) (D : va_G) (cI cZ : ClassId) (ar : Nat) (tk : Nat → Nat) (e1 : Nat) (htk : ∀ k, tk k < 101) (he1 : e1 < 4096) : MI l D cI cZ yX2_longest wsX2_longest ({ frames := 1, cells := 0, slots := 0, locals := 21 }) [.ref ar, .int (nI e1)] [(ar, .inl (cI, 12, .inl (iA tk)))] (fun r w => r = nI (lon tk e1 12) ∧ w = [(ar, .inl (cI, 12, .inl (iA tk)))]) := by
  refine MI.of (cc := cX2_longest) (maxL := 4) (ret := (some .int)) (own := RX2) (by decide) rfl rfl (Nat.le_of_ble_eq_true rfl) ?_
  intro pQ eQ s mQ args below meth cQ A X hw ls hl
  obtain ⟨⟨hx, hb, hml, hown, hts⟩, hr, hlk, hK, hN, hA⟩ := id X
  have hl : lv_has ls 4 [(0, .ref ar), (1, .int (nI e1))] := hl
  refine lv_iconst (v := nI 0) hx hb dX2_longest_0 (by decide) ?_
  refine lv_istore_n (lv' := [(2, .int (nI 0)), (0, .ref ar), (1, .int (nI e1))]) hx hb dX2_longest_1 rfl hl (by decide) rfl (fun ls hl => ?_)
  refine lv_iconst (v := nI 0) hx hb dX2_longest_2 (by decide) ?_
  refine lv_istore_n (lv' := [(3, .int (nI 0)), (2, .int (nI 0)), (0, .ref ar), (1, .int (nI e1))]) hx hb dX2_longest_3 rfl hl (by decide) rfl (fun ls hl => ?_)
  refine wl (α := Nat × Nat) (nL := 4) (fun a => 12 - a.2) (fun a => (a.2 ≤ 12) ∧ (a.1 = lon tk e1 a.2)) (fun a => [(ar, .inl (cI, 12, .inl (iA tk)))]) (fun a => [(3, .int (nI a.2)), (2, .int (nI a.1)), (0, .ref ar), (1, .int (nI e1))]) ?_ (0, 0) ⟨(show 0 ≤ 12 from by omega), (show 0 = lon tk e1 0 from rfl)⟩ _ _ _ hw (lv_sub hl [0, 1, 2, 3] rfl)
  rintro ⟨a, i⟩ ⟨hi, ha⟩ H locs ls hw hl ih_4
  have hi : i ≤ 12 := hi
  have ha : a = lon tk e1 i := ha
  have hw : WD D A s.heap [(ar, .inl (cI, 12, .inl (iA tk)))] H locs := hw
  have hl : lv_has ls 4 [(3, .int (nI i)), (2, .int (nI a)), (0, .ref ar), (1, .int (nI e1))] := hl
  have hal := lon_lt htk e1 i
  rw [← ha] at hal
  refine lv_iload_n hx hb dX2_longest_4 rfl (lv_at hl 0 rfl) ?_
  refine lv_aload_n hx hb dX2_longest_5 rfl (lv_at hl 2 rfl) ?_
  refine x_alen X hw 0 rfl dX2_longest_6 ?_
  refine lv_icmp_ge (tgt := 32) hx hb dX2_longest_7 (by decide) (fun c_7 => ?_) (fun c_7 => ?_)
  · skip
    rw [nI_leI (by omega) (by omega)] at c_7
    refine lv_iload_n hx hb dX2_longest_32 rfl (lv_at hl 1 rfl) ?_
    exact x_iret X hw (⟨(by rw [ha, show i = 12 by omega]), rfl⟩) dX2_longest_33
  · skip
    rw [nI_leI (by omega) (by omega)] at c_7
    refine lv_iload_n hx hb dX2_longest_10 rfl (lv_at hl 3 rfl) ?_
    refine lv_iload_n hx hb dX2_longest_11 rfl (lv_at hl 0 rfl) ?_
    refine x_callN (As := [.int (nI e1), .int (nI i)]) (rest := []) (host := RX5) (n := 2) X hw hl.1 (c_X5_has l D cI cZ e1 i (by first | assumption | omega) (by first | assumption | omega)) gX2_longest_X5_has_n40 rfl rfl rfl (List.mem_of_getElem? (i := 9) rfl) (by decide +kernel) (by decide +kernel) (by decide +kernel) ⟨Nat.le_of_ble_eq_true rfl, Nat.le_of_ble_eq_true rfl⟩ [] rfl rfl rfl (Nat.le_of_ble_eq_true rfl) dX2_longest_12 (by decide) (fun r w1 H locs hp hw1 => ?_)
    obtain ⟨rfl, rfl⟩ := hp
    have hw : WD D A s.heap [(ar, .inl (cI, 12, .inl (iA tk)))] H locs := hw1 rfl
    refine lv_if_eq (tgt := 26) hx hb dX2_longest_15 (by decide) (fun c_15 => ?_) (fun c_15 => ?_)
    · skip
      rw [q_b0] at c_15; try simp only [Bool.not_eq_false, Bool.not_eq_true] at c_15
      refine lv_iinc (v := nI (i + 1)) (lv' := [(3, .int (nI (i + 1))), (2, .int (nI a)), (0, .ref ar), (1, .int (nI e1))]) hx hb dX2_longest_26 hl (k := 0) rfl (nI_add i 1) (by decide) rfl (fun ls hl => ?_)
      refine lv_goto (tgt := 4) hx hb dX2_longest_29 (by decide) ?_
      exact ih_4 (a, i + 1) (by show 12 - (i + 1) < 12 - i; omega) ⟨(show (i + 1) ≤ 12 from by omega), (show a = lon tk e1 (i + 1) from by rw [ha]; simp [lon, fo, c_15])⟩ _ _ _ hw (lv_sub hl [0, 1, 2, 3] rfl)
    · skip
      rw [q_b0] at c_15; try simp only [Bool.not_eq_false, Bool.not_eq_true] at c_15
      refine lv_iload_n hx hb dX2_longest_18 rfl (lv_at hl 1 rfl) ?_
      refine lv_aload_n hx hb dX2_longest_19 rfl (lv_at hl 2 rfl) ?_
      refine lv_iload_n hx hb dX2_longest_20 rfl (lv_at hl 0 rfl) ?_
      refine x_aldN X hw 0 rfl (by omega) (by omega) dX2_longest_21 ?_
      have hb_21 := htk i
      refine va_mmax hx hb (by rw [hml]; exact hl.1.symm) hown (hts (.methodLink RX2 43 Lib.Math.max.name) (by decide +kernel)) (hts (.static Lib.Math.max.name) (by decide +kernel)) (hts (.initialized "java/lang/Math") (by decide +kernel)) (hts (.code Lib.Math.max.name Lib.Math.max.code 2 (some .int)) (by decide +kernel)) (by decide) (by decide) (by decide) (by decide) dX2_longest_22 ?_
      refine cv_i (show (if nI a < nI (tk i) then nI (tk i) else nI a) = nI (max a (tk i)) from q_max (by omega) (by omega)) ?_
      refine lv_istore_n (lv' := [(2, .int (nI (max a (tk i)))), (3, .int (nI i)), (0, .ref ar), (1, .int (nI e1))]) hx hb dX2_longest_25 rfl hl (by decide) rfl (fun ls hl => ?_)
      refine lv_iinc (v := nI (i + 1)) (lv' := [(3, .int (nI (i + 1))), (2, .int (nI (max a (tk i)))), (0, .ref ar), (1, .int (nI e1))]) hx hb dX2_longest_26 hl (k := 1) rfl (nI_add i 1) (by decide) rfl (fun ls hl => ?_)
      refine lv_goto (tgt := 4) hx hb dX2_longest_29 (by decide) ?_
      exact ih_4 (max a (tk i), i + 1) (by show 12 - (i + 1) < 12 - i; omega) ⟨(show (i + 1) ≤ 12 from by omega), (show (max a (tk i)) = lon tk e1 (i + 1) from by rw [ha]; simp [lon, fo, c_15])⟩ _ _ _ hw (lv_sub hl [0, 1, 2, 3] rfl)
set_option maxHeartbeats 4000000 in
set_option maxRecDepth 100000 in
theorem c_X2_sum (l : Launch) (D : va_G) (cI cZ : ClassId) (ar : Nat) (tk : Nat → Nat) (t : Nat) (te : Nat) (ts : Nat) (en : Nat → Nat) (st : Nat → Nat) (n : Nat) (htk : ∀ k, tk k < 101) (hn : n ≤ 16) (hen : ∀ k, en k < 4096) (hst : ∀ k, st k < 64) : MI l D cI cZ yX2_sum wsX2_sum ({ frames := 2, cells := 0, slots := 0, locals := 44 }) [.ref ar, .ref t] [(ar, .inl (cI, 12, .inl (iA tk))), (t, .inr (3, [.ref te, .ref ts, .int (nI n)])), (te, .inl (cI, 16, .inl (iA en))), (ts, .inl (cI, 17, .inl (iA st)))] (fun r w => r = nI (sumP tk en n) ∧ w = [(ar, .inl (cI, 12, .inl (iA tk))), (t, .inr (3, [.ref te, .ref ts, .int (nI n)])), (te, .inl (cI, 16, .inl (iA en))), (ts, .inl (cI, 17, .inl (iA st)))]) := by
  refine MI.of (cc := cX2_sum) (maxL := 4) (ret := (some .int)) (own := RX2) (by decide) rfl rfl (Nat.le_of_ble_eq_true rfl) ?_
  intro pQ eQ s mQ args below meth cQ A X hw ls hl
  obtain ⟨⟨hx, hb, hml, hown, hts⟩, hr, hlk, hK, hN, hA⟩ := id X
  have hl : lv_has ls 4 [(0, .ref ar), (1, .ref t)] := hl
  refine lv_iconst (v := nI 0) hx hb dX2_sum_0 (by decide) ?_
  refine lv_istore_n (lv' := [(2, .int (nI 0)), (0, .ref ar), (1, .ref t)]) hx hb dX2_sum_1 rfl hl (by decide) rfl (fun ls hl => ?_)
  refine lv_iconst (v := nI 0) hx hb dX2_sum_2 (by decide) ?_
  refine lv_istore_n (lv' := [(3, .int (nI 0)), (2, .int (nI 0)), (0, .ref ar), (1, .ref t)]) hx hb dX2_sum_3 rfl hl (by decide) rfl (fun ls hl => ?_)
  refine wl (α := Nat × Nat) (nL := 4) (fun a => n - a.2) (fun a => (a.2 ≤ n) ∧ (a.1 = sumP tk en a.2)) (fun a => [(ar, .inl (cI, 12, .inl (iA tk))), (t, .inr (3, [.ref te, .ref ts, .int (nI n)])), (te, .inl (cI, 16, .inl (iA en))), (ts, .inl (cI, 17, .inl (iA st)))]) (fun a => [(3, .int (nI a.2)), (2, .int (nI a.1)), (0, .ref ar), (1, .ref t)]) ?_ (0, 0) ⟨(show 0 ≤ n from by omega), (show 0 = sumP tk en 0 from rfl)⟩ _ _ _ hw (lv_sub hl [0, 1, 2, 3] rfl)
  rintro ⟨a, i⟩ ⟨hi, ha⟩ H locs ls hw hl ih_4
  have hi : i ≤ n := hi
  have ha : a = sumP tk en i := ha
  have hw : WD D A s.heap [(ar, .inl (cI, 12, .inl (iA tk))), (t, .inr (3, [.ref te, .ref ts, .int (nI n)])), (te, .inl (cI, 16, .inl (iA en))), (ts, .inl (cI, 17, .inl (iA st)))] H locs := hw
  have hl : lv_has ls 4 [(3, .int (nI i)), (2, .int (nI a)), (0, .ref ar), (1, .ref t)] := hl
  refine lv_iload_n hx hb dX2_sum_4 rfl (lv_at hl 0 rfl) ?_
  refine lv_aload_n hx hb dX2_sum_5 rfl (lv_at hl 3 rfl) ?_
  refine x_callV (As := []) (rest := [.int (nI i)]) X hw hl.1 (c_X3_size l D cI cZ t te ts en st n ) (cwV 0 hts gX2_sum_X3_size rfl rfl rfl (by decide +kernel) ⟨Nat.le_of_ble_eq_true rfl, Nat.le_of_ble_eq_true rfl⟩) [1, 2, 3] rfl rfl 0 rfl rfl rfl rfl (Nat.le_of_ble_eq_true rfl) dX2_sum_6 (by decide) (fun r w1 H locs hp hw1 => ?_)
  obtain ⟨rfl, rfl⟩ := hp
  have hw : WD D A s.heap [(ar, .inl (cI, 12, .inl (iA tk))), (t, .inr (3, [.ref te, .ref ts, .int (nI n)])), (te, .inl (cI, 16, .inl (iA en))), (ts, .inl (cI, 17, .inl (iA st)))] H locs := hw1 rfl
  refine lv_icmp_ge (tgt := 30) hx hb dX2_sum_9 (by decide) (fun c_9 => ?_) (fun c_9 => ?_)
  · skip
    rw [nI_leI (by omega) (by omega)] at c_9
    refine lv_iload_n hx hb dX2_sum_30 rfl (lv_at hl 1 rfl) ?_
    exact x_iret X hw (⟨(by rw [ha, show i = n by omega]), rfl⟩) dX2_sum_31
  · skip
    rw [nI_leI (by omega) (by omega)] at c_9
    refine lv_iload_n hx hb dX2_sum_12 rfl (lv_at hl 1 rfl) ?_
    refine lv_aload_n hx hb dX2_sum_13 rfl (lv_at hl 2 rfl) ?_
    refine lv_aload_n hx hb dX2_sum_14 rfl (lv_at hl 3 rfl) ?_
    refine lv_iload_n hx hb dX2_sum_15 rfl (lv_at hl 0 rfl) ?_
    refine x_callV (As := [.int (nI i)]) (rest := [.ref ar, .int (nI a)]) X hw hl.1 (c_X3_endsOf l D cI cZ t te ts en st n i (by first | assumption | omega) (by first | assumption | omega) (by first | assumption | omega) (by first | assumption | omega)) (cwV 1 hts gX2_sum_X3_endsOf rfl rfl rfl (by decide +kernel) ⟨Nat.le_of_ble_eq_true rfl, Nat.le_of_ble_eq_true rfl⟩) [1, 2, 3] rfl rfl 0 rfl rfl rfl rfl (Nat.le_of_ble_eq_true rfl) dX2_sum_16 (by decide) (fun r w1 H locs hp hw1 => ?_)
    obtain ⟨rfl, rfl⟩ := hp
    have hw : WD D A s.heap [(ar, .inl (cI, 12, .inl (iA tk))), (t, .inr (3, [.ref te, .ref ts, .int (nI n)])), (te, .inl (cI, 16, .inl (iA en))), (ts, .inl (cI, 17, .inl (iA st)))] H locs := hw1 rfl
    have he := hen i
    refine x_callS (As := [.ref ar, .int (nI (en i))]) (rest := [.int (nI a)]) X hw hl.1 (c_X2_longest l D cI cZ ar tk (en i) (by first | assumption | omega) (by first | assumption | omega)) (va_cwS 2 hts gX2_sum_X2_longest rfl rfl rfl (by decide +kernel) ⟨Nat.le_of_ble_eq_true rfl, Nat.le_of_ble_eq_true rfl⟩) [0] rfl rfl rfl (Nat.le_of_ble_eq_true rfl) dX2_sum_19 (by decide) (fun r w1 H locs hp hw1 => ?_)
    obtain ⟨rfl, rfl⟩ := hp
    have hw : WD D A s.heap [(ar, .inl (cI, 12, .inl (iA tk))), (t, .inr (3, [.ref te, .ref ts, .int (nI n)])), (te, .inl (cI, 16, .inl (iA en))), (ts, .inl (cI, 17, .inl (iA st)))] H locs := hw1 rfl
    refine lv_iadd hx hb dX2_sum_22 ?_
    refine cv_i (show nI a + nI (lon tk (en i) 12) = nI (a + (lon tk (en i) 12)) from nI_add a (lon tk (en i) 12)) ?_
    refine lv_istore_n (lv' := [(2, .int (nI (a + (lon tk (en i) 12)))), (3, .int (nI i)), (0, .ref ar), (1, .ref t)]) hx hb dX2_sum_23 rfl hl (by decide) rfl (fun ls hl => ?_)
    refine lv_iinc (v := nI (i + 1)) (lv' := [(3, .int (nI (i + 1))), (2, .int (nI (a + (lon tk (en i) 12)))), (0, .ref ar), (1, .ref t)]) hx hb dX2_sum_24 hl (k := 1) rfl (nI_add i 1) (by decide) rfl (fun ls hl => ?_)
    refine lv_goto (tgt := 4) hx hb dX2_sum_27 (by decide) ?_
    exact ih_4 (a + (lon tk (en i) 12), i + 1) (by show n - (i + 1) < n - i; omega) ⟨(show (i + 1) ≤ n from by omega), (show (a + (lon tk (en i) 12)) = sumP tk en (i + 1) from by rw [ha]; rfl)⟩ _ _ _ hw (lv_sub hl [0, 1, 2, 3] rfl)
set_option maxHeartbeats 4000000 in
set_option maxRecDepth 100000 in
theorem c_X2_leastOfLoop (l : Launch) (D : va_G) (cI cZ : ClassId) (pa : Nat) (pl : Nat) (pm : Nat) (le : Nat → Nat) (mo : Nat → Nat) (t : Nat) (te : Nat) (ts : Nat) (en : Nat → Nat) (st : Nat → Nat) (n : Nat) (hle : ∀ k, le k < 101) (hmo : ∀ k, mo k < 101) (hn : n ≤ 16) (hen : ∀ k, en k < 4096) (hst : ∀ k, st k < 64) : MI l D cI cZ yX2_leastOfLoop wsX2_leastOfLoop ({ frames := 3, cells := 0, slots := 0, locals := 67 }) [.ref pa, .ref t] [(pa, .inr (2, [.ref pl, .ref pm])), (pl, .inl (cI, 12, .inl (iA le))), (pm, .inl (cI, 12, .inl (iA mo))), (t, .inr (3, [.ref te, .ref ts, .int (nI n)])), (te, .inl (cI, 16, .inl (iA en))), (ts, .inl (cI, 17, .inl (iA st)))] (fun r w => r = nI (sumP le en n) ∧ w = [(pa, .inr (2, [.ref pl, .ref pm])), (pl, .inl (cI, 12, .inl (iA le))), (pm, .inl (cI, 12, .inl (iA mo))), (t, .inr (3, [.ref te, .ref ts, .int (nI n)])), (te, .inl (cI, 16, .inl (iA en))), (ts, .inl (cI, 17, .inl (iA st)))]) := by
  refine MI.of (cc := cX2_leastOfLoop) (maxL := 2) (ret := (some .int)) (own := RX2) (by decide) rfl rfl (Nat.le_of_ble_eq_true rfl) ?_
  intro pQ eQ s mQ args below meth cQ A X hw ls hl
  obtain ⟨⟨hx, hb, hml, hown, hts⟩, hr, hlk, hK, hN, hA⟩ := id X
  have hl : lv_has ls 2 [(0, .ref pa), (1, .ref t)] := hl
  have n2 : ∀ w ∈ wsX20, w ∈ wsX2_leastOfLoop := by decide +kernel
  have f9 : FF args s RX2 wsX2_leastOfLoop 9 2 0 := ⟨_, rfl, by decide, n2, hts (.fieldLink RX2 9 "AirSteps$Paces" "least" "[I") (by decide +kernel)⟩
  refine lv_aload_n hx hb dX2_leastOfLoop_0 rfl (lv_at hl 0 rfl) ?_
  refine x_get X hw f9 0 rfl rfl dX2_leastOfLoop_1 ?_
  refine lv_aload_n hx hb dX2_leastOfLoop_4 rfl (lv_at hl 1 rfl) ?_
  refine x_callS (As := [.ref pl, .ref t]) (rest := []) X hw hl.1 (c_X2_sum l D cI cZ pl le t te ts en st n (hle) (by first | assumption | omega) (by first | assumption | omega) (by first | assumption | omega)) (va_cwS 2 hts gX2_leastOfLoop_X2_sum rfl rfl rfl (by decide +kernel) ⟨Nat.le_of_ble_eq_true rfl, Nat.le_of_ble_eq_true rfl⟩) [1, 3, 4, 5] rfl rfl rfl (Nat.le_of_ble_eq_true rfl) dX2_leastOfLoop_5 (by decide) (fun r w1 H locs hp hw1 => ?_)
  obtain ⟨rfl, rfl⟩ := hp
  have hw : WD D A s.heap [(pa, .inr (2, [.ref pl, .ref pm])), (pl, .inl (cI, 12, .inl (iA le))), (pm, .inl (cI, 12, .inl (iA mo))), (t, .inr (3, [.ref te, .ref ts, .int (nI n)])), (te, .inl (cI, 16, .inl (iA en))), (ts, .inl (cI, 17, .inl (iA st)))] H locs := hw1 rfl
  exact x_iret X hw (⟨(by first | rfl | omega), rfl⟩) dX2_leastOfLoop_8
set_option maxHeartbeats 4000000 in
set_option maxRecDepth 100000 in
theorem c_X2_mostOfLoop (l : Launch) (D : va_G) (cI cZ : ClassId) (pa : Nat) (pl : Nat) (pm : Nat) (le : Nat → Nat) (mo : Nat → Nat) (t : Nat) (te : Nat) (ts : Nat) (en : Nat → Nat) (st : Nat → Nat) (n : Nat) (hle : ∀ k, le k < 101) (hmo : ∀ k, mo k < 101) (hn : n ≤ 16) (hen : ∀ k, en k < 4096) (hst : ∀ k, st k < 64) : MI l D cI cZ yX2_mostOfLoop wsX2_mostOfLoop ({ frames := 3, cells := 0, slots := 0, locals := 67 }) [.ref pa, .ref t] [(pa, .inr (2, [.ref pl, .ref pm])), (pl, .inl (cI, 12, .inl (iA le))), (pm, .inl (cI, 12, .inl (iA mo))), (t, .inr (3, [.ref te, .ref ts, .int (nI n)])), (te, .inl (cI, 16, .inl (iA en))), (ts, .inl (cI, 17, .inl (iA st)))] (fun r w => r = nI (sumP mo en n) ∧ w = [(pa, .inr (2, [.ref pl, .ref pm])), (pl, .inl (cI, 12, .inl (iA le))), (pm, .inl (cI, 12, .inl (iA mo))), (t, .inr (3, [.ref te, .ref ts, .int (nI n)])), (te, .inl (cI, 16, .inl (iA en))), (ts, .inl (cI, 17, .inl (iA st)))]) := by
  refine MI.of (cc := cX2_mostOfLoop) (maxL := 2) (ret := (some .int)) (own := RX2) (by decide) rfl rfl (Nat.le_of_ble_eq_true rfl) ?_
  intro pQ eQ s mQ args below meth cQ A X hw ls hl
  obtain ⟨⟨hx, hb, hml, hown, hts⟩, hr, hlk, hK, hN, hA⟩ := id X
  have hl : lv_has ls 2 [(0, .ref pa), (1, .ref t)] := hl
  have n2 : ∀ w ∈ wsX20, w ∈ wsX2_mostOfLoop := by decide +kernel
  have f15 : FF args s RX2 wsX2_mostOfLoop 15 2 1 := ⟨_, rfl, by decide, n2, hts (.fieldLink RX2 15 "AirSteps$Paces" "most" "[I") (by decide +kernel)⟩
  refine lv_aload_n hx hb dX2_mostOfLoop_0 rfl (lv_at hl 0 rfl) ?_
  refine x_get X hw f15 0 rfl rfl dX2_mostOfLoop_1 ?_
  refine lv_aload_n hx hb dX2_mostOfLoop_4 rfl (lv_at hl 1 rfl) ?_
  refine x_callS (As := [.ref pm, .ref t]) (rest := []) X hw hl.1 (c_X2_sum l D cI cZ pm mo t te ts en st n (hmo) (by first | assumption | omega) (by first | assumption | omega) (by first | assumption | omega)) (va_cwS 2 hts gX2_mostOfLoop_X2_sum rfl rfl rfl (by decide +kernel) ⟨Nat.le_of_ble_eq_true rfl, Nat.le_of_ble_eq_true rfl⟩) [2, 3, 4, 5] rfl rfl rfl (Nat.le_of_ble_eq_true rfl) dX2_mostOfLoop_5 (by decide) (fun r w1 H locs hp hw1 => ?_)
  obtain ⟨rfl, rfl⟩ := hp
  have hw : WD D A s.heap [(pa, .inr (2, [.ref pl, .ref pm])), (pl, .inl (cI, 12, .inl (iA le))), (pm, .inl (cI, 12, .inl (iA mo))), (t, .inr (3, [.ref te, .ref ts, .int (nI n)])), (te, .inl (cI, 16, .inl (iA en))), (ts, .inl (cI, 17, .inl (iA st)))] H locs := hw1 rfl
  exact x_iret X hw (⟨(by first | rfl | omega), rfl⟩) dX2_mostOfLoop_8
set_option maxHeartbeats 4000000 in
set_option maxRecDepth 100000 in
theorem c_X2_slowest (l : Launch) (D : va_G) (cI cZ : ClassId) (pa : Nat) (pl : Nat) (pm : Nat) (le : Nat → Nat) (mo : Nat → Nat) (t : Nat) (te : Nat) (ts : Nat) (en : Nat → Nat) (st : Nat → Nat) (n : Nat) (hle : ∀ k, le k < 101) (hmo : ∀ k, mo k < 101) (hn : n ≤ 16) (hen : ∀ k, en k < 4096) (hst : ∀ k, st k < 64) : MI l D cI cZ yX2_slowest wsX2_slowest ({ frames := 2, cells := 0, slots := 0, locals := 44 }) [.ref pa, .ref t] [(pa, .inr (2, [.ref pl, .ref pm])), (pl, .inl (cI, 12, .inl (iA le))), (pm, .inl (cI, 12, .inl (iA mo))), (t, .inr (3, [.ref te, .ref ts, .int (nI n)])), (te, .inl (cI, 16, .inl (iA en))), (ts, .inl (cI, 17, .inl (iA st)))] (fun r w => r = (slo mo en n).1 ∧ w = [(pa, .inr (2, [.ref pl, .ref pm])), (pl, .inl (cI, 12, .inl (iA le))), (pm, .inl (cI, 12, .inl (iA mo))), (t, .inr (3, [.ref te, .ref ts, .int (nI n)])), (te, .inl (cI, 16, .inl (iA en))), (ts, .inl (cI, 17, .inl (iA st)))]) := by
  refine MI.of (cc := cX2_slowest) (maxL := 6) (ret := (some .int)) (own := RX2) (by decide) rfl rfl (Nat.le_of_ble_eq_true rfl) ?_
  intro pQ eQ s mQ args below meth cQ A X hw ls hl
  obtain ⟨⟨hx, hb, hml, hown, hts⟩, hr, hlk, hK, hN, hA⟩ := id X
  have hl : lv_has ls 6 [(0, .ref pa), (1, .ref t)] := hl
  have n2 : ∀ w ∈ wsX20, w ∈ wsX2_slowest := by decide +kernel
  have f15 : FF args s RX2 wsX2_slowest 15 2 1 := ⟨_, rfl, by decide, n2, hts (.fieldLink RX2 15 "AirSteps$Paces" "most" "[I") (by decide +kernel)⟩
  refine lv_iconst (v := (-1)) hx hb dX2_slowest_0 (by decide) ?_
  refine lv_istore_n (lv' := [(2, .int (-1)), (0, .ref pa), (1, .ref t)]) hx hb dX2_slowest_1 rfl hl (by decide) rfl (fun ls hl => ?_)
  refine lv_iconst (v := nI 0) hx hb dX2_slowest_2 (by decide) ?_
  refine lv_istore_n (lv' := [(3, .int (nI 0)), (2, .int (-1)), (0, .ref pa), (1, .ref t)]) hx hb dX2_slowest_3 rfl hl (by decide) rfl (fun ls hl => ?_)
  refine lv_iconst (v := nI 0) hx hb dX2_slowest_4 (by decide) ?_
  refine lv_istore (lv' := [(4, .int (nI 0)), (3, .int (nI 0)), (2, .int (-1)), (0, .ref pa), (1, .ref t)]) hx hb dX2_slowest_5 hl (by decide) rfl (fun ls hl => ?_)
  refine wl (α := Int32 × Nat × Nat) (nL := 6) (fun a => n - a.2.2) (fun a => (a.2.2 ≤ n) ∧ ((a.1, a.2.1) = slo mo en a.2.2) ∧ (a.2.1 < 101)) (fun a => [(pa, .inr (2, [.ref pl, .ref pm])), (pl, .inl (cI, 12, .inl (iA le))), (pm, .inl (cI, 12, .inl (iA mo))), (t, .inr (3, [.ref te, .ref ts, .int (nI n)])), (te, .inl (cI, 16, .inl (iA en))), (ts, .inl (cI, 17, .inl (iA st)))]) (fun a => [(4, .int (nI a.2.2)), (3, .int (nI a.2.1)), (2, .int a.1), (0, .ref pa), (1, .ref t)]) ?_ ((-1), 0, 0) ⟨(show 0 ≤ n from by omega), (show ((-1), 0) = slo mo en 0 from rfl), (show 0 < 101 from by omega)⟩ _ _ _ hw (lv_sub hl [0, 1, 2, 3, 4] rfl)
  rintro ⟨f, a, i⟩ ⟨hi, ha, hab⟩ H locs ls hw hl ih_7
  have hi : i ≤ n := hi
  have ha : (f, a) = slo mo en i := ha
  have hab : a < 101 := hab
  have hw : WD D A s.heap [(pa, .inr (2, [.ref pl, .ref pm])), (pl, .inl (cI, 12, .inl (iA le))), (pm, .inl (cI, 12, .inl (iA mo))), (t, .inr (3, [.ref te, .ref ts, .int (nI n)])), (te, .inl (cI, 16, .inl (iA en))), (ts, .inl (cI, 17, .inl (iA st)))] H locs := hw
  have hl : lv_has ls 6 [(4, .int (nI i)), (3, .int (nI a)), (2, .int f), (0, .ref pa), (1, .ref t)] := hl
  refine lv_iload hx hb dX2_slowest_7 (lv_at hl 0 rfl) ?_
  refine lv_aload_n hx hb dX2_slowest_9 rfl (lv_at hl 4 rfl) ?_
  refine x_callV (As := []) (rest := [.int (nI i)]) X hw hl.1 (c_X3_size l D cI cZ t te ts en st n ) (cwV 0 hts gX2_slowest_X3_size rfl rfl rfl (by decide +kernel) ⟨Nat.le_of_ble_eq_true rfl, Nat.le_of_ble_eq_true rfl⟩) [3, 4, 5] rfl rfl 0 rfl rfl rfl rfl (Nat.le_of_ble_eq_true rfl) dX2_slowest_10 (by decide) (fun r w1 H locs hp hw1 => ?_)
  obtain ⟨rfl, rfl⟩ := hp
  have hw : WD D A s.heap [(pa, .inr (2, [.ref pl, .ref pm])), (pl, .inl (cI, 12, .inl (iA le))), (pm, .inl (cI, 12, .inl (iA mo))), (t, .inr (3, [.ref te, .ref ts, .int (nI n)])), (te, .inl (cI, 16, .inl (iA en))), (ts, .inl (cI, 17, .inl (iA st)))] H locs := hw1 rfl
  refine lv_icmp_ge (tgt := 49) hx hb dX2_slowest_13 (by decide) (fun c_13 => ?_) (fun c_13 => ?_)
  · skip
    rw [nI_leI (by omega) (by omega)] at c_13
    refine lv_iload_n hx hb dX2_slowest_49 rfl (lv_at hl 2 rfl) ?_
    exact x_iret X hw (⟨(by rw [show n = i by omega, ← ha]), rfl⟩) dX2_slowest_50
  · skip
    rw [nI_leI (by omega) (by omega)] at c_13
    refine lv_aload_n hx hb dX2_slowest_16 rfl (lv_at hl 3 rfl) ?_
    refine x_get X hw f15 0 rfl rfl dX2_slowest_17 ?_
    refine lv_aload_n hx hb dX2_slowest_20 rfl (lv_at hl 4 rfl) ?_
    refine lv_iload hx hb dX2_slowest_21 (lv_at hl 0 rfl) ?_
    refine x_callV (As := [.int (nI i)]) (rest := [.ref pm]) X hw hl.1 (c_X3_endsOf l D cI cZ t te ts en st n i (by first | assumption | omega) (by first | assumption | omega) (by first | assumption | omega) (by first | assumption | omega)) (cwV 1 hts gX2_slowest_X3_endsOf rfl rfl rfl (by decide +kernel) ⟨Nat.le_of_ble_eq_true rfl, Nat.le_of_ble_eq_true rfl⟩) [3, 4, 5] rfl rfl 0 rfl rfl rfl rfl (Nat.le_of_ble_eq_true rfl) dX2_slowest_23 (by decide) (fun r w1 H locs hp hw1 => ?_)
    obtain ⟨rfl, rfl⟩ := hp
    have hw : WD D A s.heap [(pa, .inr (2, [.ref pl, .ref pm])), (pl, .inl (cI, 12, .inl (iA le))), (pm, .inl (cI, 12, .inl (iA mo))), (t, .inr (3, [.ref te, .ref ts, .int (nI n)])), (te, .inl (cI, 16, .inl (iA en))), (ts, .inl (cI, 17, .inl (iA st)))] H locs := hw1 rfl
    have he := hen i
    refine x_callS (As := [.ref pm, .int (nI (en i))]) (rest := []) X hw hl.1 (c_X2_longest l D cI cZ pm mo (en i) (hmo) (by first | assumption | omega)) (va_cwS 2 hts gX2_slowest_X2_longest rfl rfl rfl (by decide +kernel) ⟨Nat.le_of_ble_eq_true rfl, Nat.le_of_ble_eq_true rfl⟩) [2] rfl rfl rfl (Nat.le_of_ble_eq_true rfl) dX2_slowest_26 (by decide) (fun r w1 H locs hp hw1 => ?_)
    obtain ⟨rfl, rfl⟩ := hp
    have hw : WD D A s.heap [(pa, .inr (2, [.ref pl, .ref pm])), (pl, .inl (cI, 12, .inl (iA le))), (pm, .inl (cI, 12, .inl (iA mo))), (t, .inr (3, [.ref te, .ref ts, .int (nI n)])), (te, .inl (cI, 16, .inl (iA en))), (ts, .inl (cI, 17, .inl (iA st)))] H locs := hw1 rfl
    have hll := lon_lt hmo (en i) 12
    refine lv_istore (lv' := [(5, .int (nI (lon mo (en i) 12))), (4, .int (nI i)), (3, .int (nI a)), (2, .int f), (0, .ref pa), (1, .ref t)]) hx hb dX2_slowest_29 hl (by decide) rfl (fun ls hl => ?_)
    refine lv_iload hx hb dX2_slowest_31 (lv_at hl 0 rfl) ?_
    refine lv_iload_n hx hb dX2_slowest_33 rfl (lv_at hl 2 rfl) ?_
    refine lv_icmp_le (tgt := 43) hx hb dX2_slowest_34 (by decide) (fun c_34 => ?_) (fun c_34 => ?_)
    · skip
      rw [nI_leI (by omega) (by omega)] at c_34
      refine lv_iinc (v := nI (i + 1)) (lv' := [(4, .int (nI (i + 1))), (5, .int (nI (lon mo (en i) 12))), (3, .int (nI a)), (2, .int f), (0, .ref pa), (1, .ref t)]) hx hb dX2_slowest_43 hl (k := 1) rfl (nI_add i 1) (by decide) rfl (fun ls hl => ?_)
      refine lv_goto (tgt := 7) hx hb dX2_slowest_46 (by decide) ?_
      exact ih_7 (f, a, i + 1) (by show n - (i + 1) < n - i; omega) ⟨(show (i + 1) ≤ n from by omega), (show (f, a) = slo mo en (i + 1) from by show _ = (if (slo mo en i).2 < lon mo (en i) 12 then (nI i, lon mo (en i) 12) else slo mo en i); rw [← ha]; simp; omega), (show a < 101 from by omega)⟩ _ _ _ hw (lv_sub hl [0, 2, 3, 4, 5] rfl)
    · skip
      rw [nI_leI (by omega) (by omega)] at c_34
      refine lv_iload hx hb dX2_slowest_37 (lv_at hl 0 rfl) ?_
      refine lv_istore_n (lv' := [(3, .int (nI (lon mo (en i) 12))), (5, .int (nI (lon mo (en i) 12))), (4, .int (nI i)), (2, .int f), (0, .ref pa), (1, .ref t)]) hx hb dX2_slowest_39 rfl hl (by decide) rfl (fun ls hl => ?_)
      refine lv_iload hx hb dX2_slowest_40 (lv_at hl 2 rfl) ?_
      refine lv_istore_n (lv' := [(2, .int (nI i)), (3, .int (nI (lon mo (en i) 12))), (5, .int (nI (lon mo (en i) 12))), (4, .int (nI i)), (0, .ref pa), (1, .ref t)]) hx hb dX2_slowest_42 rfl hl (by decide) rfl (fun ls hl => ?_)
      refine lv_iinc (v := nI (i + 1)) (lv' := [(4, .int (nI (i + 1))), (2, .int (nI i)), (3, .int (nI (lon mo (en i) 12))), (5, .int (nI (lon mo (en i) 12))), (0, .ref pa), (1, .ref t)]) hx hb dX2_slowest_43 hl (k := 3) rfl (nI_add i 1) (by decide) rfl (fun ls hl => ?_)
      refine lv_goto (tgt := 7) hx hb dX2_slowest_46 (by decide) ?_
      exact ih_7 (nI i, lon mo (en i) 12, i + 1) (by show n - (i + 1) < n - i; omega) ⟨(show (i + 1) ≤ n from by omega), (show ((nI i), (lon mo (en i) 12)) = slo mo en (i + 1) from by show _ = (if (slo mo en i).2 < lon mo (en i) 12 then (nI i, lon mo (en i) 12) else slo mo en i); rw [← ha]; simp; omega), (show (lon mo (en i) 12) < 101 from by omega)⟩ _ _ _ hw (lv_sub hl [0, 2, 1, 4, 5] rfl)
end
section
/-! ===== AirSteps.Laws ===== -/
def brk (ba wh : Nat → Nat) (e st i : Nat) : Bool := e.testBit (ba i) && ((sen st).testBit (wh i) || (cyl e).testBit (cyE (wh i)))
def alw (ba wh : Nat → Nat) (nl e st : Nat) : Bool := decide (¬ fs (brk ba wh e st) nl < nl)
def mvE (st c : Nat) : Nat := (anN (1 <<< c) st <<< 6) ||| ((1 <<< c) &&& st)
theorem mvE_lt : ∀ st, st < 64 → ∀ c, c < 6 → mvE st c < 4096 := by decide +kernel
def alM (ba wh : Nat → Nat) (nl st c : Nat) : Bool := alw ba wh nl (mvE st c) st
theorem cyE_lt {e : Nat} (h : e < 12) : cyE e < 6 := by unfold cyE; split <;> omega
theorem shl_step {α : Type} {f g : Nat → α} {k i : Nat} (h : ∀ j, f j = if k ≤ j ∧ j < i then g (j + 1) else g j) (hi : k ≤ i) : ∀ j, va_up f i (f (i + 1)) j = if k ≤ j ∧ j < i + 1 then g (j + 1) else g j := by
  intro j
  unfold va_up
  by_cases hj : j = i
  · subst hj
    rw [if_pos rfl, if_pos ⟨hi, Nat.lt_succ_self _⟩, h, if_neg (by omega)]
  · rw [if_neg hj, h]
    by_cases hk : k ≤ j ∧ j < i
    · rw [if_pos hk, if_pos ⟨hk.1, by omega⟩]
    · rw [if_neg hk, if_neg (by omega)]
set_option maxHeartbeats 4000000 in
set_option maxRecDepth 100000 in
theorem c_X1_size (l : Launch) (D : va_G) (cI cZ : ClassId) (la : Nat) (lb : Nat) (lw : Nat) (ba : Nat → Nat) (wh : Nat → Nat) (nl : Nat)  : MI l D cI cZ yX1_size wsX1_size ({ frames := 0, cells := 0, slots := 0, locals := 0 }) [.ref la] [(la, .inr (1, [.ref lb, .ref lw, .int (nI nl)])), (lb, .inl (cI, 12, .inl (iA ba))), (lw, .inl (cI, 12, .inl (iA wh)))] (fun r w => r = nI nl ∧ w = [(la, .inr (1, [.ref lb, .ref lw, .int (nI nl)])), (lb, .inl (cI, 12, .inl (iA ba))), (lw, .inl (cI, 12, .inl (iA wh)))]) := by
  refine MI.of (cc := cX1_size) (maxL := 1) (ret := (some .int)) (own := RX1) (by decide) rfl rfl (Nat.le_of_ble_eq_true rfl) ?_
  intro pQ eQ s mQ args below meth cQ A X hw ls hl
  obtain ⟨⟨hx, hb, hml, hown, hts⟩, hr, hlk, hK, hN, hA⟩ := id X
  have hl : lv_has ls 1 [(0, .ref la)] := hl
  have n1 : ∀ w ∈ wsX10, w ∈ wsX1_size := by decide +kernel
  have f18 : FF args s RX1 wsX1_size 18 1 2 := ⟨_, rfl, by decide, n1, hts (.fieldLink RX1 18 "AirSteps$Laws" "size" "I") (by decide +kernel)⟩
  refine lv_aload_n hx hb dX1_size_0 rfl (lv_at hl 0 rfl) ?_
  refine x_get X hw f18 0 rfl rfl dX1_size_1 ?_
  exact x_iret X hw (⟨(by first | rfl | omega), rfl⟩) dX1_size_4
set_option maxHeartbeats 4000000 in
set_option maxRecDepth 100000 in
theorem c_X1_add (l : Launch) (D : va_G) (cI cZ : ClassId) (la : Nat) (lb : Nat) (lw : Nat) (ba : Nat → Nat) (wh : Nat → Nat) (nl : Nat) (a : Nat) (b : Nat) (hnl12 : nl < 12) : MV l D cI cZ yX1_add wsX1_add ({ frames := 0, cells := 0, slots := 0, locals := 0 }) [.ref la, .int (nI a), .int (nI b)] [(la, .inr (1, [.ref lb, .ref lw, .int (nI nl)])), (lb, .inl (cI, 12, .inl (iA ba))), (lw, .inl (cI, 12, .inl (iA wh)))] 0 0 (fun w => w = [(la, .inr (1, [.ref lb, .ref lw, .int (nI (nl + 1))])), (lb, .inl (cI, 12, .inl (iA (va_up ba nl a)))), (lw, .inl (cI, 12, .inl (iA (va_up wh nl b))))]) := by
  refine MV.of (cc := cX1_add) (maxL := 3) (ret := none) (own := RX1) (by decide) rfl rfl (Nat.le_of_ble_eq_true rfl) ?_
  intro pQ eQ s mQ args below meth cQ A X hnm hw ls hl
  obtain ⟨⟨hx, hb, hml, hown, hts⟩, hr, hlk, hK, hN, hA⟩ := id X
  have hl : lv_has ls 3 [(0, .ref la), (1, .int (nI a)), (2, .int (nI b))] := hl
  have n1 : ∀ w ∈ wsX10, w ∈ wsX1_add := by decide +kernel
  have f9 : FF args s RX1 wsX1_add 9 1 0 := ⟨_, rfl, by decide, n1, hts (.fieldLink RX1 9 "AirSteps$Laws" "barred" "[I") (by decide +kernel)⟩
  have f15 : FF args s RX1 wsX1_add 15 1 1 := ⟨_, rfl, by decide, n1, hts (.fieldLink RX1 15 "AirSteps$Laws" "whileAt" "[I") (by decide +kernel)⟩
  have f18 : FF args s RX1 wsX1_add 18 1 2 := ⟨_, rfl, by decide, n1, hts (.fieldLink RX1 18 "AirSteps$Laws" "size" "I") (by decide +kernel)⟩
  have p18 : FP args s RX1 wsX1_add 18 1 2 := ⟨_, tyX1, rfl, by decide, n1, hts (.fieldLink RX1 18 "AirSteps$Laws" "size" "I") (by decide +kernel), tyX1_ok, nmX1, rfl, by decide +kernel⟩
  refine lv_aload_n hx hb dX1_add_0 rfl (lv_at hl 0 rfl) ?_
  refine x_get X hw f18 0 rfl rfl dX1_add_1 ?_
  refine lv_bipush (v := nI 12) hx hb dX1_add_4 (by decide) ?_
  refine lv_icmp_lt (tgt := 10) hx hb dX1_add_6 (by decide) (fun c_6 => ?_) (fun c_6 => ?_)
  · skip
    rw [nI_ltI (by omega) (by omega)] at c_6
    refine lv_aload_n hx hb dX1_add_10 rfl (lv_at hl 0 rfl) ?_
    refine x_get X hw f9 0 rfl rfl dX1_add_11 ?_
    refine lv_aload_n hx hb dX1_add_14 rfl (lv_at hl 0 rfl) ?_
    refine x_get X hw f18 0 rfl rfl dX1_add_15 ?_
    refine lv_iload_n hx hb dX1_add_18 rfl (lv_at hl 1 rfl) ?_
    refine x_astN X hw 1 rfl (by omega) (by omega) dX1_add_19 (fun H locs hw => ?_)
    have hw : WD D A s.heap [(la, .inr (1, [.ref lb, .ref lw, .int (nI nl)])), (lb, .inl (cI, 12, .inl (iA (va_up ba nl a)))), (lw, .inl (cI, 12, .inl (iA wh)))] H locs := hw
    refine lv_aload_n hx hb dX1_add_20 rfl (lv_at hl 0 rfl) ?_
    refine x_get X hw f15 0 rfl rfl dX1_add_21 ?_
    refine lv_aload_n hx hb dX1_add_24 rfl (lv_at hl 0 rfl) ?_
    refine x_get X hw f18 0 rfl rfl dX1_add_25 ?_
    refine lv_iload_n hx hb dX1_add_28 rfl (lv_at hl 2 rfl) ?_
    refine x_astN X hw 2 rfl (by omega) (by omega) dX1_add_29 (fun H locs hw => ?_)
    have hw : WD D A s.heap [(la, .inr (1, [.ref lb, .ref lw, .int (nI nl)])), (lb, .inl (cI, 12, .inl (iA (va_up ba nl a)))), (lw, .inl (cI, 12, .inl (iA (va_up wh nl b))))] H locs := hw
    refine lv_aload_n hx hb dX1_add_30 rfl (lv_at hl 0 rfl) ?_
    refine lv_dup hx hb dX1_add_31 rfl ?_
    refine x_get X hw f18 0 rfl rfl dX1_add_32 ?_
    refine lv_iconst (v := nI 1) hx hb dX1_add_35 (by decide) ?_
    refine lv_iadd hx hb dX1_add_36 ?_
    refine cv_i (show nI nl + nI 1 = nI (nl + 1) from nI_add nl 1) ?_
    refine x_put X hw p18 0 rfl (Nat.le_of_ble_eq_true rfl) dX1_add_37 (fun H locs hw => ?_)
    have hw : WD D A s.heap [(la, .inr (1, [.ref lb, .ref lw, .int (nI (nl + 1))])), (lb, .inl (cI, 12, .inl (iA (va_up ba nl a)))), (lw, .inl (cI, 12, .inl (iA (va_up wh nl b))))] H locs := hw
    exact x_vret X hw (rfl) dX1_add_40
  · skip
    rw [nI_ltI (by omega) (by omega)] at c_6
    exact absurd hnl12 c_6
set_option maxHeartbeats 4000000 in
set_option maxRecDepth 100000 in
theorem c_X1_remove (l : Launch) (D : va_G) (cI cZ : ClassId) (la : Nat) (lb : Nat) (lw : Nat) (ba : Nat → Nat) (wh : Nat → Nat) (nl : Nat) (k : Nat) (hnl : nl ≤ 12) (hk : k < nl) : MV l D cI cZ yX1_remove wsX1_remove ({ frames := 1, cells := 0, slots := 0, locals := 21 }) [.ref la, .int (nI k)] [(la, .inr (1, [.ref lb, .ref lw, .int (nI nl)])), (lb, .inl (cI, 12, .inl (iA ba))), (lw, .inl (cI, 12, .inl (iA wh)))] 0 0 (fun w => ∃ fb : Nat → Nat, ∃ fw : Nat → Nat, (∀ j, fb j = if k ≤ j ∧ j < nl - 1 then ba (j + 1) else ba j) ∧ (∀ j, fw j = if k ≤ j ∧ j < nl - 1 then wh (j + 1) else wh j) ∧ w = [(la, .inr (1, [.ref lb, .ref lw, .int (nI (nl - 1))])), (lb, .inl (cI, 12, .inl (iA fb))), (lw, .inl (cI, 12, .inl (iA fw)))]) := by
  refine MV.of (cc := cX1_remove) (maxL := 3) (ret := none) (own := RX1) (by decide) rfl rfl (Nat.le_of_ble_eq_true rfl) ?_
  intro pQ eQ s mQ args below meth cQ A X hnm hw ls hl
  obtain ⟨⟨hx, hb, hml, hown, hts⟩, hr, hlk, hK, hN, hA⟩ := id X
  have hl : lv_has ls 3 [(0, .ref la), (1, .int (nI k))] := hl
  have n1 : ∀ w ∈ wsX10, w ∈ wsX1_remove := by decide +kernel
  have f9 : FF args s RX1 wsX1_remove 9 1 0 := ⟨_, rfl, by decide, n1, hts (.fieldLink RX1 9 "AirSteps$Laws" "barred" "[I") (by decide +kernel)⟩
  have f15 : FF args s RX1 wsX1_remove 15 1 1 := ⟨_, rfl, by decide, n1, hts (.fieldLink RX1 15 "AirSteps$Laws" "whileAt" "[I") (by decide +kernel)⟩
  have f18 : FF args s RX1 wsX1_remove 18 1 2 := ⟨_, rfl, by decide, n1, hts (.fieldLink RX1 18 "AirSteps$Laws" "size" "I") (by decide +kernel)⟩
  have p18 : FP args s RX1 wsX1_remove 18 1 2 := ⟨_, tyX1, rfl, by decide, n1, hts (.fieldLink RX1 18 "AirSteps$Laws" "size" "I") (by decide +kernel), tyX1_ok, nmX1, rfl, by decide +kernel⟩
  refine lv_iload_n hx hb dX1_remove_0 rfl (lv_at hl 1 rfl) ?_
  refine lv_aload_n hx hb dX1_remove_1 rfl (lv_at hl 0 rfl) ?_
  refine x_get X hw f18 0 rfl rfl dX1_remove_2 ?_
  refine x_callN (As := [.int (nI k), .int (nI nl)]) (rest := []) (host := RX5) (n := 2) X hw hl.1 (c_X5_isBelow l D cI cZ (nI k) (nI nl) ) gX1_remove_X5_isBelow_n22 rfl rfl rfl (List.mem_of_getElem? (i := 15) rfl) (by decide +kernel) (by decide +kernel) (by decide +kernel) ⟨Nat.le_of_ble_eq_true rfl, Nat.le_of_ble_eq_true rfl⟩ [] rfl rfl rfl (Nat.le_of_ble_eq_true rfl) dX1_remove_5 (by decide) (fun r w1 H locs hp hw1 => ?_)
  obtain ⟨rfl, rfl⟩ := hp
  have hw : WD D A s.heap [(la, .inr (1, [.ref lb, .ref lw, .int (nI nl)])), (lb, .inl (cI, 12, .inl (iA ba))), (lw, .inl (cI, 12, .inl (iA wh)))] H locs := hw1 rfl
  refine lv_if_ne (tgt := 12) hx hb dX1_remove_8 (by decide) (fun c_8 => ?_) (fun c_8 => ?_)
  · skip
    rw [q_b0] at c_8; try simp only [Bool.not_eq_false, Bool.not_eq_true] at c_8
    refine lv_iload_n hx hb dX1_remove_12 rfl (lv_at hl 1 rfl) ?_
    refine lv_istore_n (lv' := [(2, .int (nI k)), (0, .ref la), (1, .int (nI k))]) hx hb dX1_remove_13 rfl hl (by decide) rfl (fun ls hl => ?_)
    refine wl (α := (Nat → Nat) × (Nat → Nat) × Nat) (nL := 3) (fun a => nl - a.2.2) (fun a => (k ≤ a.2.2) ∧ (a.2.2 ≤ nl - 1) ∧ (∀ j, a.1 j = if k ≤ j ∧ j < a.2.2 then ba (j + 1) else ba j) ∧ (∀ j, a.2.1 j = if k ≤ j ∧ j < a.2.2 then wh (j + 1) else wh j)) (fun a => [(la, .inr (1, [.ref lb, .ref lw, .int (nI nl)])), (lb, .inl (cI, 12, .inl (iA a.1))), (lw, .inl (cI, 12, .inl (iA a.2.1)))]) (fun a => [(2, .int (nI a.2.2)), (0, .ref la), (1, .int (nI k))]) ?_ (ba, wh, k) ⟨(show k ≤ k from by omega), (show k ≤ nl - 1 from by omega), (show ∀ j, ba j = if k ≤ j ∧ j < k then ba (j + 1) else ba j from fun j => by rw [if_neg (by omega)]), (show ∀ j, wh j = if k ≤ j ∧ j < k then wh (j + 1) else wh j from fun j => by rw [if_neg (by omega)])⟩ _ _ _ hw (lv_sub hl [0, 1, 2] rfl)
    rintro ⟨fb, fw, i⟩ ⟨hi, hi2, hfb, hfw⟩ H locs ls hw hl ih_14
    have hi : k ≤ i := hi
    have hi2 : i ≤ nl - 1 := hi2
    have hfb : ∀ j, fb j = if k ≤ j ∧ j < i then ba (j + 1) else ba j := hfb
    have hfw : ∀ j, fw j = if k ≤ j ∧ j < i then wh (j + 1) else wh j := hfw
    have hw : WD D A s.heap [(la, .inr (1, [.ref lb, .ref lw, .int (nI nl)])), (lb, .inl (cI, 12, .inl (iA fb))), (lw, .inl (cI, 12, .inl (iA fw)))] H locs := hw
    have hl : lv_has ls 3 [(2, .int (nI i)), (0, .ref la), (1, .int (nI k))] := hl
    refine lv_iload_n hx hb dX1_remove_14 rfl (lv_at hl 0 rfl) ?_
    refine lv_aload_n hx hb dX1_remove_15 rfl (lv_at hl 1 rfl) ?_
    refine x_get X hw f18 0 rfl rfl dX1_remove_16 ?_
    refine lv_iconst (v := nI 1) hx hb dX1_remove_19 (by decide) ?_
    refine lv_isub hx hb dX1_remove_20 ?_
    refine cv_i (show nI nl - nI 1 = nI (nl - 1) from pk_sub (by first | omega | assumption)) ?_
    refine lv_icmp_ge (tgt := 58) hx hb dX1_remove_21 (by decide) (fun c_21 => ?_) (fun c_21 => ?_)
    · skip
      rw [nI_leI (by omega) (by omega)] at c_21
      refine lv_aload_n hx hb dX1_remove_58 rfl (lv_at hl 1 rfl) ?_
      refine lv_dup hx hb dX1_remove_59 rfl ?_
      refine x_get X hw f18 0 rfl rfl dX1_remove_60 ?_
      refine lv_iconst (v := nI 1) hx hb dX1_remove_63 (by decide) ?_
      refine lv_isub hx hb dX1_remove_64 ?_
      refine cv_i (show nI nl - nI 1 = nI (nl - 1) from pk_sub (by first | omega | assumption)) ?_
      refine x_put X hw p18 0 rfl (Nat.le_of_ble_eq_true rfl) dX1_remove_65 (fun H locs hw => ?_)
      have hw : WD D A s.heap [(la, .inr (1, [.ref lb, .ref lw, .int (nI (nl - 1))])), (lb, .inl (cI, 12, .inl (iA fb))), (lw, .inl (cI, 12, .inl (iA fw)))] H locs := hw
      exact x_vret X hw (⟨fb, fw, (by rw [show nl - 1 = i by omega]; exact hfb), (by rw [show nl - 1 = i by omega]; exact hfw), rfl⟩) dX1_remove_68
    · skip
      rw [nI_leI (by omega) (by omega)] at c_21
      refine lv_aload_n hx hb dX1_remove_24 rfl (lv_at hl 1 rfl) ?_
      refine x_get X hw f9 0 rfl rfl dX1_remove_25 ?_
      refine lv_iload_n hx hb dX1_remove_28 rfl (lv_at hl 0 rfl) ?_
      refine lv_aload_n hx hb dX1_remove_29 rfl (lv_at hl 1 rfl) ?_
      refine x_get X hw f9 0 rfl rfl dX1_remove_30 ?_
      refine lv_iload_n hx hb dX1_remove_33 rfl (lv_at hl 0 rfl) ?_
      refine lv_iconst (v := nI 1) hx hb dX1_remove_34 (by decide) ?_
      refine lv_iadd hx hb dX1_remove_35 ?_
      refine cv_i (show nI i + nI 1 = nI (i + 1) from nI_add i 1) ?_
      refine x_aldN X hw 1 rfl (by omega) (by omega) dX1_remove_36 ?_
      refine x_astN X hw 1 rfl (by omega) (by omega) dX1_remove_37 (fun H locs hw => ?_)
      have hw : WD D A s.heap [(la, .inr (1, [.ref lb, .ref lw, .int (nI nl)])), (lb, .inl (cI, 12, .inl (iA (va_up fb i (fb (i + 1)))))), (lw, .inl (cI, 12, .inl (iA fw)))] H locs := hw
      refine lv_aload_n hx hb dX1_remove_38 rfl (lv_at hl 1 rfl) ?_
      refine x_get X hw f15 0 rfl rfl dX1_remove_39 ?_
      refine lv_iload_n hx hb dX1_remove_42 rfl (lv_at hl 0 rfl) ?_
      refine lv_aload_n hx hb dX1_remove_43 rfl (lv_at hl 1 rfl) ?_
      refine x_get X hw f15 0 rfl rfl dX1_remove_44 ?_
      refine lv_iload_n hx hb dX1_remove_47 rfl (lv_at hl 0 rfl) ?_
      refine lv_iconst (v := nI 1) hx hb dX1_remove_48 (by decide) ?_
      refine lv_iadd hx hb dX1_remove_49 ?_
      refine cv_i (show nI i + nI 1 = nI (i + 1) from nI_add i 1) ?_
      refine x_aldN X hw 2 rfl (by omega) (by omega) dX1_remove_50 ?_
      refine x_astN X hw 2 rfl (by omega) (by omega) dX1_remove_51 (fun H locs hw => ?_)
      have hw : WD D A s.heap [(la, .inr (1, [.ref lb, .ref lw, .int (nI nl)])), (lb, .inl (cI, 12, .inl (iA (va_up fb i (fb (i + 1)))))), (lw, .inl (cI, 12, .inl (iA (va_up fw i (fw (i + 1))))))] H locs := hw
      refine lv_iinc (v := nI (i + 1)) (lv' := [(2, .int (nI (i + 1))), (0, .ref la), (1, .int (nI k))]) hx hb dX1_remove_52 hl (k := 0) rfl (nI_add i 1) (by decide) rfl (fun ls hl => ?_)
      refine lv_goto (tgt := 14) hx hb dX1_remove_55 (by decide) ?_
      exact ih_14 (va_up fb i (fb (i + 1)), va_up fw i (fw (i + 1)), i + 1) (by show nl - (i + 1) < nl - i; omega) ⟨(show k ≤ (i + 1) from by omega), (show (i + 1) ≤ nl - 1 from by omega), (show ∀ j, (va_up fb i (fb (i + 1))) j = if k ≤ j ∧ j < (i + 1) then ba (j + 1) else ba j from shl_step hfb hi), (show ∀ j, (va_up fw i (fw (i + 1))) j = if k ≤ j ∧ j < (i + 1) then wh (j + 1) else wh j from shl_step hfw hi)⟩ _ _ _ hw (lv_sub hl [0, 1, 2] rfl)
  · skip
    rw [q_b0] at c_8; try simp only [Bool.not_eq_false, Bool.not_eq_true] at c_8
    rw [bel_nI (by omega) (by omega)] at c_8; simp at c_8; omega
set_option maxHeartbeats 4000000 in
set_option maxRecDepth 100000 in
theorem c_X1_allow (l : Launch) (D : va_G) (cI cZ : ClassId) (la : Nat) (lb : Nat) (lw : Nat) (ba : Nat → Nat) (wh : Nat → Nat) (nl : Nat) (e1 : Nat) (st : Nat) (hnl : nl ≤ 12) (hba : ∀ k, ba k < 12) (hwh : ∀ k, wh k < 12) (he1 : e1 < 4096) (hst1 : st < 64) : MI l D cI cZ yX1_allow wsX1_allow ({ frames := 2, cells := 0, slots := 0, locals := 41 }) [.ref la, .int (nI e1), .int (nI st)] [(la, .inr (1, [.ref lb, .ref lw, .int (nI nl)])), (lb, .inl (cI, 12, .inl (iA ba))), (lw, .inl (cI, 12, .inl (iA wh)))] (fun r w => r = bI (alw ba wh nl e1 st) ∧ w = [(la, .inr (1, [.ref lb, .ref lw, .int (nI nl)])), (lb, .inl (cI, 12, .inl (iA ba))), (lw, .inl (cI, 12, .inl (iA wh)))]) := by
  refine MI.of (cc := cX1_allow) (maxL := 7) (ret := (some .boolean)) (own := RX1) (by decide) rfl rfl (Nat.le_of_ble_eq_true rfl) ?_
  intro pQ eQ s mQ args below meth cQ A X hw ls hl
  obtain ⟨⟨hx, hb, hml, hown, hts⟩, hr, hlk, hK, hN, hA⟩ := id X
  have hl : lv_has ls 7 [(0, .ref la), (1, .int (nI e1)), (2, .int (nI st))] := hl
  have n1 : ∀ w ∈ wsX10, w ∈ wsX1_allow := by decide +kernel
  have f9 : FF args s RX1 wsX1_allow 9 1 0 := ⟨_, rfl, by decide, n1, hts (.fieldLink RX1 9 "AirSteps$Laws" "barred" "[I") (by decide +kernel)⟩
  have f15 : FF args s RX1 wsX1_allow 15 1 1 := ⟨_, rfl, by decide, n1, hts (.fieldLink RX1 15 "AirSteps$Laws" "whileAt" "[I") (by decide +kernel)⟩
  have f18 : FF args s RX1 wsX1_allow 18 1 2 := ⟨_, rfl, by decide, n1, hts (.fieldLink RX1 18 "AirSteps$Laws" "size" "I") (by decide +kernel)⟩
  refine lv_iload_n hx hb dX1_allow_0 rfl (lv_at hl 2 rfl) ?_
  refine x_callN (As := [.int (nI st)]) (rest := []) (host := RX5) (n := 1) X hw hl.1 (c_X5_sensorsOn l D cI cZ st ) gX1_allow_X5_sensorsOn_n26 rfl rfl rfl (List.mem_of_getElem? (i := 11) rfl) (by decide +kernel) (by decide +kernel) (by decide +kernel) ⟨Nat.le_of_ble_eq_true rfl, Nat.le_of_ble_eq_true rfl⟩ [] rfl rfl rfl (Nat.le_of_ble_eq_true rfl) dX1_allow_1 (by decide) (fun r w1 H locs hp hw1 => ?_)
  obtain ⟨rfl, rfl⟩ := hp
  have hw : WD D A s.heap [(la, .inr (1, [.ref lb, .ref lw, .int (nI nl)])), (lb, .inl (cI, 12, .inl (iA ba))), (lw, .inl (cI, 12, .inl (iA wh)))] H locs := hw1 rfl
  have hs1 := sen_lt hst1
  refine lv_istore_n (lv' := [(3, .int (nI (sen st))), (0, .ref la), (1, .int (nI e1)), (2, .int (nI st))]) hx hb dX1_allow_4 rfl hl (by decide) rfl (fun ls hl => ?_)
  refine lv_iload_n hx hb dX1_allow_5 rfl (lv_at hl 2 rfl) ?_
  refine x_callN (As := [.int (nI e1)]) (rest := []) (host := RX5) (n := 1) X hw hl.1 (c_X5_cylindersOf l D cI cZ e1 (by first | assumption | omega)) gX1_allow_X5_cylindersOf_n30 rfl rfl rfl (List.mem_of_getElem? (i := 12) rfl) (by decide +kernel) (by decide +kernel) (by decide +kernel) ⟨Nat.le_of_ble_eq_true rfl, Nat.le_of_ble_eq_true rfl⟩ [] rfl rfl rfl (Nat.le_of_ble_eq_true rfl) dX1_allow_6 (by decide) (fun r w1 H locs hp hw1 => ?_)
  obtain ⟨rfl, rfl⟩ := hp
  have hw : WD D A s.heap [(la, .inr (1, [.ref lb, .ref lw, .int (nI nl)])), (lb, .inl (cI, 12, .inl (iA ba))), (lw, .inl (cI, 12, .inl (iA wh)))] H locs := hw1 rfl
  have hs2 := cyl_lt he1
  refine lv_istore (lv' := [(4, .int (nI (cyl e1))), (3, .int (nI (sen st))), (0, .ref la), (1, .int (nI e1)), (2, .int (nI st))]) hx hb dX1_allow_9 hl (by decide) rfl (fun ls hl => ?_)
  refine lv_iconst (v := nI 0) hx hb dX1_allow_11 (by decide) ?_
  refine lv_istore (lv' := [(5, .int (nI 0)), (4, .int (nI (cyl e1))), (3, .int (nI (sen st))), (0, .ref la), (1, .int (nI e1)), (2, .int (nI st))]) hx hb dX1_allow_12 hl (by decide) rfl (fun ls hl => ?_)
  refine wl (α := Nat) (nL := 7) (fun a => nl - a) (fun a => (a ≤ nl) ∧ (∀ j, j < a → brk ba wh e1 st j = false)) (fun a => [(la, .inr (1, [.ref lb, .ref lw, .int (nI nl)])), (lb, .inl (cI, 12, .inl (iA ba))), (lw, .inl (cI, 12, .inl (iA wh)))]) (fun a => [(5, .int (nI a)), (4, .int (nI (cyl e1))), (3, .int (nI (sen st))), (0, .ref la), (1, .int (nI e1)), (2, .int (nI st))]) ?_ 0 ⟨(show 0 ≤ nl from by omega), (show ∀ j, j < 0 → brk ba wh e1 st j = false from fun j hj => absurd hj (Nat.not_lt_zero j))⟩ _ _ _ hw (lv_sub hl [0, 1, 2, 3, 4, 5] rfl)
  rintro i ⟨hi, hq⟩ H locs ls hw hl ih_14
  have hi : i ≤ nl := hi
  have hq : ∀ j, j < i → brk ba wh e1 st j = false := hq
  have hw : WD D A s.heap [(la, .inr (1, [.ref lb, .ref lw, .int (nI nl)])), (lb, .inl (cI, 12, .inl (iA ba))), (lw, .inl (cI, 12, .inl (iA wh)))] H locs := hw
  have hl : lv_has ls 7 [(5, .int (nI i)), (4, .int (nI (cyl e1))), (3, .int (nI (sen st))), (0, .ref la), (1, .int (nI e1)), (2, .int (nI st))] := hl
  refine lv_iload hx hb dX1_allow_14 (lv_at hl 0 rfl) ?_
  refine lv_aload_n hx hb dX1_allow_16 rfl (lv_at hl 3 rfl) ?_
  refine x_get X hw f18 0 rfl rfl dX1_allow_17 ?_
  refine lv_icmp_ge (tgt := 89) hx hb dX1_allow_20 (by decide) (fun c_20 => ?_) (fun c_20 => ?_)
  · skip
    rw [nI_leI (by omega) (by omega)] at c_20
    refine lv_iconst (v := nI 1) hx hb dX1_allow_89 (by decide) ?_
    refine cv_i (show nI 1 = bI true from by decide) ?_
    exact x_zret X hw (⟨(by unfold alw; rw [fs_eq (k := nl) (by omega) (fun j hj => hq j (by omega)) (Or.inl rfl)]; simp), rfl⟩) dX1_allow_90
  · skip
    rw [nI_leI (by omega) (by omega)] at c_20
    refine wj (α := Bool) (nL := 7) 60 (fun a => (a = ((sen st).testBit (wh i) || (cyl e1).testBit (cyE (wh i))))) (fun a => [(la, .inr (1, [.ref lb, .ref lw, .int (nI nl)])), (lb, .inl (cI, 12, .inl (iA ba))), (lw, .inl (cI, 12, .inl (iA wh)))]) (fun a => [(5, .int (nI i)), (4, .int (nI (cyl e1))), (3, .int (nI (sen st))), (0, .ref la), (1, .int (nI e1)), (2, .int (nI st))]) (fun a => [.int (bI a)]) (D := D) (A := A) (H0 := s.heap) (fun J60 => ?_) ?_
    · skip
      refine lv_iload_n hx hb dX1_allow_23 rfl (lv_at hl 2 rfl) ?_
      refine lv_aload_n hx hb dX1_allow_24 rfl (lv_at hl 3 rfl) ?_
      refine x_get X hw f15 0 rfl rfl dX1_allow_25 ?_
      refine lv_iload hx hb dX1_allow_28 (lv_at hl 0 rfl) ?_
      refine x_aldN X hw 2 rfl (by omega) (by omega) dX1_allow_30 ?_
      have hb_30 := hwh i
      refine x_callN (As := [.int (nI (sen st)), .int (nI (wh i))]) (rest := []) (host := RX5) (n := 2) X hw hl.1 (c_X5_has l D cI cZ (sen st) (wh i) (by first | assumption | omega) (by first | assumption | omega)) gX1_allow_X5_has_n33 rfl rfl rfl (List.mem_of_getElem? (i := 13) rfl) (by decide +kernel) (by decide +kernel) (by decide +kernel) ⟨Nat.le_of_ble_eq_true rfl, Nat.le_of_ble_eq_true rfl⟩ [] rfl rfl rfl (Nat.le_of_ble_eq_true rfl) dX1_allow_31 (by decide) (fun r w1 H locs hp hw1 => ?_)
      obtain ⟨rfl, rfl⟩ := hp
      have hw : WD D A s.heap [(la, .inr (1, [.ref lb, .ref lw, .int (nI nl)])), (lb, .inl (cI, 12, .inl (iA ba))), (lw, .inl (cI, 12, .inl (iA wh)))] H locs := hw1 rfl
      refine lv_if_ne (tgt := 55) hx hb dX1_allow_34 (by decide) (fun c_34 => ?_) (fun c_34 => ?_)
      · skip
        rw [q_b0] at c_34; try simp only [Bool.not_eq_false, Bool.not_eq_true] at c_34
        refine lv_iconst (v := nI 1) hx hb dX1_allow_55 (by decide) ?_
        refine lv_goto (tgt := 60) hx hb dX1_allow_56 (by decide) ?_
        refine cv_i (show nI 1 = bI true from by decide) ?_
        exact J60 true (show true = ((sen st).testBit (wh i) || (cyl e1).testBit (cyE (wh i))) from by first | rfl | (simp [c_34]; done) | (simp_all; done) | omega) _ _ _ hw (lv_sub hl [0, 1, 2, 3, 4, 5] rfl)
      · skip
        rw [q_b0] at c_34; try simp only [Bool.not_eq_false, Bool.not_eq_true] at c_34
        refine lv_iload hx hb dX1_allow_37 (lv_at hl 1 rfl) ?_
        refine lv_aload_n hx hb dX1_allow_39 rfl (lv_at hl 3 rfl) ?_
        refine x_get X hw f15 0 rfl rfl dX1_allow_40 ?_
        refine lv_iload hx hb dX1_allow_43 (lv_at hl 0 rfl) ?_
        refine x_aldN X hw 2 rfl (by omega) (by omega) dX1_allow_45 ?_
        have hb_45 := hwh i
        refine x_callN (As := [.int (nI (wh i))]) (rest := [.int (nI (cyl e1))]) (host := RX5) (n := 1) X hw hl.1 (c_X5_cylinderOf l D cI cZ (wh i) (by first | assumption | omega)) gX1_allow_X5_cylinderOf_n36 rfl rfl rfl (List.mem_of_getElem? (i := 14) rfl) (by decide +kernel) (by decide +kernel) (by decide +kernel) ⟨Nat.le_of_ble_eq_true rfl, Nat.le_of_ble_eq_true rfl⟩ [] rfl rfl rfl (Nat.le_of_ble_eq_true rfl) dX1_allow_46 (by decide) (fun r w1 H locs hp hw1 => ?_)
        obtain ⟨rfl, rfl⟩ := hp
        have hw : WD D A s.heap [(la, .inr (1, [.ref lb, .ref lw, .int (nI nl)])), (lb, .inl (cI, 12, .inl (iA ba))), (lw, .inl (cI, 12, .inl (iA wh)))] H locs := hw1 rfl
        have hs3 := cyE_lt (hwh i)
        refine x_callN (As := [.int (nI (cyl e1)), .int (nI (cyE (wh i)))]) (rest := []) (host := RX5) (n := 2) X hw hl.1 (c_X5_has l D cI cZ (cyl e1) (cyE (wh i)) (by first | assumption | omega) (by first | assumption | omega)) gX1_allow_X5_has_n33 rfl rfl rfl (List.mem_of_getElem? (i := 13) rfl) (by decide +kernel) (by decide +kernel) (by decide +kernel) ⟨Nat.le_of_ble_eq_true rfl, Nat.le_of_ble_eq_true rfl⟩ [] rfl rfl rfl (Nat.le_of_ble_eq_true rfl) dX1_allow_49 (by decide) (fun r w1 H locs hp hw1 => ?_)
        obtain ⟨rfl, rfl⟩ := hp
        have hw : WD D A s.heap [(la, .inr (1, [.ref lb, .ref lw, .int (nI nl)])), (lb, .inl (cI, 12, .inl (iA ba))), (lw, .inl (cI, 12, .inl (iA wh)))] H locs := hw1 rfl
        refine lv_if_eq (tgt := 59) hx hb dX1_allow_52 (by decide) (fun c_52 => ?_) (fun c_52 => ?_)
        · skip
          rw [q_b0] at c_52; try simp only [Bool.not_eq_false, Bool.not_eq_true] at c_52
          refine lv_iconst (v := nI 0) hx hb dX1_allow_59 (by decide) ?_
          refine cv_i (show nI 0 = bI false from by decide) ?_
          exact J60 false (show false = ((sen st).testBit (wh i) || (cyl e1).testBit (cyE (wh i))) from by first | rfl | (simp [c_34, c_52]; done) | (simp_all; done) | omega) _ _ _ hw (lv_sub hl [0, 1, 2, 3, 4, 5] rfl)
        · skip
          rw [q_b0] at c_52; try simp only [Bool.not_eq_false, Bool.not_eq_true] at c_52
          refine lv_iconst (v := nI 1) hx hb dX1_allow_55 (by decide) ?_
          refine lv_goto (tgt := 60) hx hb dX1_allow_56 (by decide) ?_
          refine cv_i (show nI 1 = bI true from by decide) ?_
          exact J60 true (show true = ((sen st).testBit (wh i) || (cyl e1).testBit (cyE (wh i))) from by first | rfl | (simp [c_34, c_52]; done) | (simp_all; done) | omega) _ _ _ hw (lv_sub hl [0, 1, 2, 3, 4, 5] rfl)
    · rintro h hh H locs ls hw hl
      have hh : h = ((sen st).testBit (wh i) || (cyl e1).testBit (cyE (wh i))) := hh
      have hw : WD D A s.heap [(la, .inr (1, [.ref lb, .ref lw, .int (nI nl)])), (lb, .inl (cI, 12, .inl (iA ba))), (lw, .inl (cI, 12, .inl (iA wh)))] H locs := hw
      have hl : lv_has ls 7 [(5, .int (nI i)), (4, .int (nI (cyl e1))), (3, .int (nI (sen st))), (0, .ref la), (1, .int (nI e1)), (2, .int (nI st))] := hl
      refine lv_istore (lv' := [(6, .int (bI h)), (5, .int (nI i)), (4, .int (nI (cyl e1))), (3, .int (nI (sen st))), (0, .ref la), (1, .int (nI e1)), (2, .int (nI st))]) hx hb dX1_allow_60 hl (by decide) rfl (fun ls hl => ?_)
      refine lv_iload_n hx hb dX1_allow_62 rfl (lv_at hl 5 rfl) ?_
      refine lv_aload_n hx hb dX1_allow_63 rfl (lv_at hl 4 rfl) ?_
      refine x_get X hw f9 0 rfl rfl dX1_allow_64 ?_
      refine lv_iload hx hb dX1_allow_67 (lv_at hl 1 rfl) ?_
      refine x_aldN X hw 1 rfl (by omega) (by omega) dX1_allow_69 ?_
      have hb_69 := hba i
      refine x_callN (As := [.int (nI e1), .int (nI (ba i))]) (rest := []) (host := RX5) (n := 2) X hw hl.1 (c_X5_has l D cI cZ e1 (ba i) (by first | assumption | omega) (by first | assumption | omega)) gX1_allow_X5_has_n33 rfl rfl rfl (List.mem_of_getElem? (i := 13) rfl) (by decide +kernel) (by decide +kernel) (by decide +kernel) ⟨Nat.le_of_ble_eq_true rfl, Nat.le_of_ble_eq_true rfl⟩ [] rfl rfl rfl (Nat.le_of_ble_eq_true rfl) dX1_allow_70 (by decide) (fun r w1 H locs hp hw1 => ?_)
      obtain ⟨rfl, rfl⟩ := hp
      have hw : WD D A s.heap [(la, .inr (1, [.ref lb, .ref lw, .int (nI nl)])), (lb, .inl (cI, 12, .inl (iA ba))), (lw, .inl (cI, 12, .inl (iA wh)))] H locs := hw1 rfl
      refine lv_if_eq (tgt := 83) hx hb dX1_allow_73 (by decide) (fun c_73 => ?_) (fun c_73 => ?_)
      · skip
        rw [q_b0] at c_73; try simp only [Bool.not_eq_false, Bool.not_eq_true] at c_73
        refine lv_iinc (v := nI (i + 1)) (lv' := [(5, .int (nI (i + 1))), (6, .int (bI h)), (4, .int (nI (cyl e1))), (3, .int (nI (sen st))), (0, .ref la), (1, .int (nI e1)), (2, .int (nI st))]) hx hb dX1_allow_83 hl (k := 1) rfl (nI_add i 1) (by decide) rfl (fun ls hl => ?_)
        refine lv_goto (tgt := 14) hx hb dX1_allow_86 (by decide) ?_
        exact ih_14 (i + 1) (by show nl - (i + 1) < nl - i; omega) ⟨(show (i + 1) ≤ nl from by omega), (show ∀ j, j < (i + 1) → brk ba wh e1 st j = false from lt_snoc hq (by first | (simp [brk, c_73]; done) | (rw [c_78] at hh; simp [brk, ← hh]; done)))⟩ _ _ _ hw (lv_sub hl [0, 2, 3, 4, 5, 6] rfl)
      · skip
        rw [q_b0] at c_73; try simp only [Bool.not_eq_false, Bool.not_eq_true] at c_73
        refine lv_iload hx hb dX1_allow_76 (lv_at hl 0 rfl) ?_
        refine lv_if_eq (tgt := 83) hx hb dX1_allow_78 (by decide) (fun c_78 => ?_) (fun c_78 => ?_)
        · skip
          rw [q_b0] at c_78; try simp only [Bool.not_eq_false, Bool.not_eq_true] at c_78
          refine lv_iinc (v := nI (i + 1)) (lv' := [(5, .int (nI (i + 1))), (6, .int (bI h)), (4, .int (nI (cyl e1))), (3, .int (nI (sen st))), (0, .ref la), (1, .int (nI e1)), (2, .int (nI st))]) hx hb dX1_allow_83 hl (k := 1) rfl (nI_add i 1) (by decide) rfl (fun ls hl => ?_)
          refine lv_goto (tgt := 14) hx hb dX1_allow_86 (by decide) ?_
          exact ih_14 (i + 1) (by show nl - (i + 1) < nl - i; omega) ⟨(show (i + 1) ≤ nl from by omega), (show ∀ j, j < (i + 1) → brk ba wh e1 st j = false from lt_snoc hq (by first | (simp [brk, c_73]; done) | (rw [c_78] at hh; simp [brk, ← hh]; done)))⟩ _ _ _ hw (lv_sub hl [0, 2, 3, 4, 5, 6] rfl)
        · skip
          rw [q_b0] at c_78; try simp only [Bool.not_eq_false, Bool.not_eq_true] at c_78
          refine lv_iconst (v := nI 0) hx hb dX1_allow_81 (by decide) ?_
          refine cv_i (show nI 0 = bI false from by decide) ?_
          exact x_zret X hw (⟨(congrArg bI (by unfold alw; rw [fs_eq (k := i) (by omega) hq (Or.inr (by rw [c_78] at hh; simp [brk, c_73, ← hh]))]; simp; omega)), rfl⟩) dX1_allow_82
set_option maxHeartbeats 4000000 in
set_option maxRecDepth 100000 in
theorem c_X1_allowMove (l : Launch) (D : va_G) (cI cZ : ClassId) (la : Nat) (lb : Nat) (lw : Nat) (ba : Nat → Nat) (wh : Nat → Nat) (nl : Nat) (st : Nat) (k : Nat) (hnl : nl ≤ 12) (hba : ∀ k, ba k < 12) (hwh : ∀ k, wh k < 12) (hst1 : st < 64) (hk : k < 6) : MI l D cI cZ yX1_allowMove wsX1_allowMove ({ frames := 3, cells := 0, slots := 0, locals := 67 }) [.ref la, .int (nI st), .int (nI k)] [(la, .inr (1, [.ref lb, .ref lw, .int (nI nl)])), (lb, .inl (cI, 12, .inl (iA ba))), (lw, .inl (cI, 12, .inl (iA wh)))] (fun r w => r = bI (alM ba wh nl st k) ∧ w = [(la, .inr (1, [.ref lb, .ref lw, .int (nI nl)])), (lb, .inl (cI, 12, .inl (iA ba))), (lw, .inl (cI, 12, .inl (iA wh)))]) := by
  refine MI.of (cc := cX1_allowMove) (maxL := 4) (ret := (some .boolean)) (own := RX1) (by decide) rfl rfl (Nat.le_of_ble_eq_true rfl) ?_
  intro pQ eQ s mQ args below meth cQ A X hw ls hl
  obtain ⟨⟨hx, hb, hml, hown, hts⟩, hr, hlk, hK, hN, hA⟩ := id X
  have hl : lv_has ls 4 [(0, .ref la), (1, .int (nI st)), (2, .int (nI k))] := hl
  refine lv_iconst (v := nI 1) hx hb dX1_allowMove_0 (by decide) ?_
  refine lv_iload_n hx hb dX1_allowMove_1 rfl (lv_at hl 2 rfl) ?_
  refine lv_ishl hx hb dX1_allowMove_2 ?_
  refine cv_i (show (nI 1) <<< (nI k &&& 31) = nI (1 <<< k) from q_shl 1 k (by first | omega | assumption)) ?_
  refine lv_istore_n (lv' := [(3, .int (nI (1 <<< k))), (0, .ref la), (1, .int (nI st)), (2, .int (nI k))]) hx hb dX1_allowMove_3 rfl hl (by decide) rfl (fun ls hl => ?_)
  refine lv_aload_n hx hb dX1_allowMove_4 rfl (lv_at hl 1 rfl) ?_
  refine lv_iload_n hx hb dX1_allowMove_5 rfl (lv_at hl 0 rfl) ?_
  refine lv_iload_n hx hb dX1_allowMove_6 rfl (lv_at hl 2 rfl) ?_
  refine lv_iconst (v := (-1)) hx hb dX1_allowMove_7 (by decide) ?_
  refine lv_ixor hx hb dX1_allowMove_8 ?_
  refine lv_iand hx hb dX1_allowMove_9 ?_
  refine cv_i (show nI (1 <<< k) &&& (nI st ^^^ (-1 : Int32)) = nI (anN (1 <<< k) st) from q_anR (1 <<< k) st) ?_
  refine lv_iload_n hx hb dX1_allowMove_10 rfl (lv_at hl 0 rfl) ?_
  refine lv_iload_n hx hb dX1_allowMove_11 rfl (lv_at hl 2 rfl) ?_
  refine lv_iand hx hb dX1_allowMove_12 ?_
  refine cv_i (show nI (1 <<< k) &&& nI st = nI ((1 <<< k) &&& st) from q_and (1 <<< k) st) ?_
  refine x_callN (As := [.int (nI (anN (1 <<< k) st)), .int (nI ((1 <<< k) &&& st))]) (rest := [.ref la]) (host := RX5) (n := 2) X hw hl.1 (c_X5_endsTo l D cI cZ (anN (1 <<< k) st) ((1 <<< k) &&& st) ) gX1_allowMove_X5_endsTo_n39 rfl rfl rfl (List.mem_of_getElem? (i := 10) rfl) (by decide +kernel) (by decide +kernel) (by decide +kernel) ⟨Nat.le_of_ble_eq_true rfl, Nat.le_of_ble_eq_true rfl⟩ [] rfl rfl rfl (Nat.le_of_ble_eq_true rfl) dX1_allowMove_13 (by decide) (fun r w1 H locs hp hw1 => ?_)
  obtain ⟨rfl, rfl⟩ := hp
  have hw : WD D A s.heap [(la, .inr (1, [.ref lb, .ref lw, .int (nI nl)])), (lb, .inl (cI, 12, .inl (iA ba))), (lw, .inl (cI, 12, .inl (iA wh)))] H locs := hw1 rfl
  refine lv_iload_n hx hb dX1_allowMove_16 rfl (lv_at hl 2 rfl) ?_
  refine x_callV (As := [.int (nI (((anN (1 <<< k) st) <<< 6) ||| ((1 <<< k) &&& st))), .int (nI st)]) (rest := []) X hw hl.1 (c_X1_allow l D cI cZ la lb lw ba wh nl (((anN (1 <<< k) st) <<< 6) ||| ((1 <<< k) &&& st)) st (by first | assumption | omega) (by first | assumption | omega) (by first | assumption | omega) (mvE_lt st hst1 k hk) (by first | assumption | omega)) (cwV 2 hts gX1_allowMove_X1_allow rfl rfl rfl (by decide +kernel) ⟨Nat.le_of_ble_eq_true rfl, Nat.le_of_ble_eq_true rfl⟩) [0, 1, 2] rfl rfl 0 rfl rfl rfl rfl (Nat.le_of_ble_eq_true rfl) dX1_allowMove_17 (by decide) (fun r w1 H locs hp hw1 => ?_)
  obtain ⟨rfl, rfl⟩ := hp
  have hw : WD D A s.heap [(la, .inr (1, [.ref lb, .ref lw, .int (nI nl)])), (lb, .inl (cI, 12, .inl (iA ba))), (lw, .inl (cI, 12, .inl (iA wh)))] H locs := hw1 rfl
  exact x_zret X hw (⟨(by first | rfl | omega), rfl⟩) dX1_allowMove_20
end
section
/-! ===== AirSteps.Ways ===== -/
theorem xb_lt : ∀ st, st < 64 → ∀ c, c < 6 → st ^^^ 1 <<< c < 64 := by decide +kernel
abbrev WS : Type := (Nat → Nat) × (Nat → Nat) × Nat
def rbS (aw : Nat → Nat → Bool) (st c : Nat) (a : WS) : WS := if a.1 (st ^^^ 1 <<< c) = 0 ∧ aw (st ^^^ 1 <<< c) c = true ∧ a.2.2 < 64 then (va_up a.1 (st ^^^ 1 <<< c) (a.1 st + 1), va_up a.2.1 a.2.2 (st ^^^ 1 <<< c), a.2.2 + 1) else a
def rbF (aw : Nat → Nat → Bool) (st : Nat) (a : WS) (i : Nat) : WS := fo (rbS aw st) a i
def nxP (aw : Nat → Nat → Bool) (dp : Nat → Nat) (st c : Nat) : Bool := decide (dp (st ^^^ 1 <<< c) + 1 = dp st) && aw st c
def nxt (aw : Nat → Nat → Bool) (dp : Nat → Nat) (st : Nat) : Nat := if fs (nxP aw dp st) 6 < 6 then fs (nxP aw dp st) 6 else 0
theorem nxt_lt (aw : Nat → Nat → Bool) (dp : Nat → Nat) (st : Nat) : nxt aw dp st < 6 := by unfold nxt; split <;> omega
def wlk (aw : Nat → Nat → Bool) (dp : Nat → Nat) (st i : Nat) : Nat := fo (fun _ a => a ^^^ 1 <<< nxt aw dp a) st i
theorem wlk_lt (aw : Nat → Nat → Bool) (dp : Nat → Nat) {st : Nat} (h : st < 64) : ∀ i : Nat, wlk aw dp st i < 64
  | 0 => h
  | i + 1 => xb_lt _ (wlk_lt aw dp h i) _ (nxt_lt aw dp _)
def mvC (aw : Nat → Nat → Bool) (dp : Nat → Nat) (st i : Nat) : Int32 := if i + 1 < dp st then nI (if (wlk aw dp st i).testBit (nxt aw dp (wlk aw dp st i)) then nxt aw dp (wlk aw dp st i) else nxt aw dp (wlk aw dp st i) + 10) else -1
theorem rbS_bd {aw : Nat → Nat → Bool} {st c : Nat} {a : WS} {B : Nat} (hst : st < 64) (hc : c < 6) (h0 : a.1 st ≤ B) (h : ∀ k, a.1 k ≤ B + 1) (hq : ∀ k, a.2.1 k < 64) : (rbS aw st c a).1 st ≤ B ∧ (∀ k, (rbS aw st c a).1 k ≤ B + 1) ∧ ∀ k, (rbS aw st c a).2.1 k < 64 := by
  unfold rbS
  split
  · refine ⟨?_, fun k => ?_, fun k => ?_⟩
    · show va_up a.1 _ _ st ≤ B
      unfold va_up
      split
      · rename_i he
        exfalso
        revert he
        have : ∀ st, st < 64 → ∀ c, c < 6 → ¬ st = st ^^^ 1 <<< c := by decide +kernel
        exact this st hst c hc
      · exact h0
    · show va_up a.1 _ _ k ≤ B + 1
      unfold va_up
      split
      · omega
      · exact h k
    · show va_up a.2.1 _ _ k < 64
      unfold va_up
      split
      · exact xb_lt st hst c hc
      · exact hq k
  · exact ⟨h0, h, hq⟩
theorem rbF_bd {aw : Nat → Nat → Bool} {st : Nat} {a : WS} {B : Nat} (hst : st < 64) (h : ∀ k, a.1 k ≤ B) (hq : ∀ k, a.2.1 k < 64) : ∀ i, i ≤ 6 → (rbF aw st a i).1 st ≤ B ∧ (∀ k, (rbF aw st a i).1 k ≤ B + 1) ∧ ∀ k, (rbF aw st a i).2.1 k < 64
  | 0, _ => ⟨h st, fun k => Nat.le_succ_of_le (h k), hq⟩
  | i + 1, hi => by
    obtain ⟨h1, h2, h3⟩ := rbF_bd hst h hq i (by omega)
    exact rbS_bd hst (by omega) h1 h2 h3
def msS (aw : Nat → Nat → Bool) (i : Nat) (a : WS) : WS := if i < a.2.2 then rbF aw (a.2.1 i) a 6 else a
def msF (aw : Nat → Nat → Bool) (q : Nat → Nat) (i : Nat) : WS := fo (msS aw) (va_up (fun _ => 0) 0 1, va_up q 0 0, 1) i
theorem msF_bd {aw : Nat → Nat → Bool} {q : Nat → Nat} (hq : ∀ k, q k < 64) : ∀ i : Nat, (∀ k, (msF aw q i).1 k ≤ i + 1) ∧ ∀ k, (msF aw q i).2.1 k < 64
  | 0 => by
    refine ⟨fun k => ?_, fun k => ?_⟩
    · show va_up (fun _ => 0) 0 1 k ≤ 1
      unfold va_up
      split
      · omega
      · show 0 ≤ 1
        omega
    · show va_up q 0 0 k < 64
      unfold va_up
      split
      · omega
      · exact hq k
  | i + 1 => by
    obtain ⟨h1, h2⟩ := msF_bd hq i
    show (∀ k, (msS aw i (msF aw q i)).1 k ≤ i + 1 + 1) ∧ ∀ k, (msS aw i (msF aw q i)).2.1 k < 64
    unfold msS
    split
    · exact (rbF_bd (h2 i) h1 h2 6 (Nat.le_refl 6)).2
    · exact ⟨fun k => Nat.le_succ_of_le (h1 k), h2⟩
theorem msF_stay {aw : Nat → Nat → Bool} {q : Nat → Nat} {i : Nat} (h : ¬ i < (msF aw q i).2.2) : ∀ d : Nat, msF aw q (i + d) = msF aw q i
  | 0 => rfl
  | d + 1 => by
    show msS aw (i + d) (msF aw q (i + d)) = _
    rw [msF_stay h d]
    unfold msS
    rw [if_neg (by omega)]
theorem up_zero {d : Nat → Nat} {i : Nat} (h : ∀ j, j < i → d j = 0) : ∀ j, j < i + 1 → va_up d i 0 j = 0 := fun j hj => by
  unfold va_up
  split
  · rfl
  · exact h j (by omega)
theorem rbF_kn {aw : Nat → Nat → Bool} {st : Nat} {a : WS} {K : Nat} (h : a.2.2 ≤ K) : (rbF aw st a 6).2.2 ≤ K + 6 := by
  have key : ∀ i, (rbF aw st a i).2.2 ≤ K + i := by
    intro i
    induction i with
    | zero => exact h
    | succ i ih =>
      show (rbS aw st i (rbF aw st a i)).2.2 ≤ K + (i + 1)
      unfold rbS
      split
      · show (rbF aw st a i).2.2 + 1 ≤ _
        omega
      · omega
  exact key 6
set_option maxHeartbeats 4000000 in
set_option maxRecDepth 100000 in
theorem c_X4_length (l : Launch) (D : va_G) (cI cZ : ClassId) (wa : Nat) (wv : Nat) (wq : Nat) (dp : Nat → Nat) (qu : Nat → Nat) (k : Nat) (hk : k < 64) : MI l D cI cZ yX4_length wsX4_length ({ frames := 2, cells := 0, slots := 0, locals := 41 }) [.ref wa, .int (nI k)] [(wa, .inr (4, [.ref wv, .ref wq])), (wv, .inl (cI, 64, .inl (mA dp))), (wq, .inl (cI, 64, .inl (iA qu)))] (fun r w => r = mI (dp k) ∧ w = [(wa, .inr (4, [.ref wv, .ref wq])), (wv, .inl (cI, 64, .inl (mA dp))), (wq, .inl (cI, 64, .inl (iA qu)))]) := by
  refine MI.of (cc := cX4_length) (maxL := 2) (ret := (some .int)) (own := RX4) (by decide) rfl rfl (Nat.le_of_ble_eq_true rfl) ?_
  intro pQ eQ s mQ args below meth cQ A X hw ls hl
  obtain ⟨⟨hx, hb, hml, hown, hts⟩, hr, hlk, hK, hN, hA⟩ := id X
  have hl : lv_has ls 2 [(0, .ref wa), (1, .int (nI k))] := hl
  have n4 : ∀ w ∈ wsX40, w ∈ wsX4_length := by decide +kernel
  have f9 : FF args s RX4 wsX4_length 9 4 0 := ⟨_, rfl, by decide, n4, hts (.fieldLink RX4 9 "AirSteps$Ways" "lengths" "[I") (by decide +kernel)⟩
  refine lv_iload_n hx hb dX4_length_0 rfl (lv_at hl 1 rfl) ?_
  refine x_callN (As := [.int (nI k)]) (rest := []) (host := RX5) (n := 1) X hw hl.1 (c_X5_isState l D cI cZ (nI k) ) gX4_length_X5_isState_n34 rfl rfl rfl (List.mem_of_getElem? (i := 16) rfl) (by decide +kernel) (by decide +kernel) (by decide +kernel) ⟨Nat.le_of_ble_eq_true rfl, Nat.le_of_ble_eq_true rfl⟩ [] rfl rfl rfl (Nat.le_of_ble_eq_true rfl) dX4_length_1 (by decide) (fun r w1 H locs hp hw1 => ?_)
  obtain ⟨rfl, rfl⟩ := hp
  have hw : WD D A s.heap [(wa, .inr (4, [.ref wv, .ref wq])), (wv, .inl (cI, 64, .inl (mA dp))), (wq, .inl (cI, 64, .inl (iA qu)))] H locs := hw1 rfl
  refine lv_if_eq (tgt := 16) hx hb dX4_length_4 (by decide) (fun c_4 => ?_) (fun c_4 => ?_)
  · skip
    rw [q_b0] at c_4; try simp only [Bool.not_eq_false, Bool.not_eq_true] at c_4
    rw [bel_nI (by omega) (by omega)] at c_4; simp at c_4; omega
  · skip
    rw [q_b0] at c_4; try simp only [Bool.not_eq_false, Bool.not_eq_true] at c_4
    refine lv_aload_n hx hb dX4_length_7 rfl (lv_at hl 0 rfl) ?_
    refine x_get X hw f9 0 rfl rfl dX4_length_8 ?_
    refine lv_iload_n hx hb dX4_length_11 rfl (lv_at hl 1 rfl) ?_
    refine x_aldM X hw 1 rfl (by omega) (by omega) dX4_length_12 ?_
    refine lv_goto (tgt := 17) hx hb dX4_length_13 (by decide) ?_
    exact x_iret X hw (⟨(by first | rfl | omega | (simp [c_4]; done) | (simp_all; done)), rfl⟩) dX4_length_17
set_option maxHeartbeats 4000000 in
set_option maxRecDepth 100000 in
theorem c_X4_reachBack (l : Launch) (D : va_G) (cI cZ : ClassId) (wa : Nat) (wv : Nat) (wq : Nat) (dp : Nat → Nat) (qu : Nat → Nat) (la : Nat) (lb : Nat) (lw : Nat) (ba : Nat → Nat) (wh : Nat → Nat) (nl : Nat) (st : Nat) (kn : Nat) (B : Nat) (hnl : nl ≤ 12) (hba : ∀ k, ba k < 12) (hwh : ∀ k, wh k < 12) (hst1 : st < 64) (hB : B < 900) (hdB : ∀ k, dp k ≤ B) (hqu : ∀ k, qu k < 64) (hkn : kn < 1000) : MI l D cI cZ yX4_reachBack wsX4_reachBack ({ frames := 4, cells := 0, slots := 0, locals := 90 }) [.ref wa, .ref la, .int (nI st), .int (nI kn)] [(wa, .inr (4, [.ref wv, .ref wq])), (wv, .inl (cI, 64, .inl (mA dp))), (wq, .inl (cI, 64, .inl (iA qu))), (la, .inr (1, [.ref lb, .ref lw, .int (nI nl)])), (lb, .inl (cI, 12, .inl (iA ba))), (lw, .inl (cI, 12, .inl (iA wh)))] (fun r w => r = nI ((rbF (alM ba wh nl) st (dp, qu, kn) 6).2.2) ∧ w = [(wa, .inr (4, [.ref wv, .ref wq])), (wv, .inl (cI, 64, .inl (mA ((rbF (alM ba wh nl) st (dp, qu, kn) 6).1)))), (wq, .inl (cI, 64, .inl (iA ((rbF (alM ba wh nl) st (dp, qu, kn) 6).2.1)))), (la, .inr (1, [.ref lb, .ref lw, .int (nI nl)])), (lb, .inl (cI, 12, .inl (iA ba))), (lw, .inl (cI, 12, .inl (iA wh)))]) := by
  refine MI.of (cc := cX4_reachBack) (maxL := 7) (ret := (some .int)) (own := RX4) (by decide) rfl rfl (Nat.le_of_ble_eq_true rfl) ?_
  intro pQ eQ s mQ args below meth cQ A X hw ls hl
  obtain ⟨⟨hx, hb, hml, hown, hts⟩, hr, hlk, hK, hN, hA⟩ := id X
  have hl : lv_has ls 7 [(0, .ref wa), (1, .ref la), (2, .int (nI st)), (3, .int (nI kn))] := hl
  have n4 : ∀ w ∈ wsX40, w ∈ wsX4_reachBack := by decide +kernel
  have f9 : FF args s RX4 wsX4_reachBack 9 4 0 := ⟨_, rfl, by decide, n4, hts (.fieldLink RX4 9 "AirSteps$Ways" "lengths" "[I") (by decide +kernel)⟩
  have f15 : FF args s RX4 wsX4_reachBack 15 4 1 := ⟨_, rfl, by decide, n4, hts (.fieldLink RX4 15 "AirSteps$Ways" "queue" "[I") (by decide +kernel)⟩
  refine lv_iload_n hx hb dX4_reachBack_0 rfl (lv_at hl 3 rfl) ?_
  refine lv_istore (lv' := [(4, .int (nI kn)), (0, .ref wa), (1, .ref la), (2, .int (nI st)), (3, .int (nI kn))]) hx hb dX4_reachBack_1 hl (by decide) rfl (fun ls hl => ?_)
  refine lv_iconst (v := nI 0) hx hb dX4_reachBack_3 (by decide) ?_
  refine lv_istore (lv' := [(5, .int (nI 0)), (4, .int (nI kn)), (0, .ref wa), (1, .ref la), (2, .int (nI st)), (3, .int (nI kn))]) hx hb dX4_reachBack_4 hl (by decide) rfl (fun ls hl => ?_)
  refine wl (α := (Nat → Nat) × (Nat → Nat) × Nat × Nat) (nL := 7) (fun a => 6 - a.2.2.2) (fun a => (a.2.2.2 ≤ 6) ∧ ((a.1, a.2.1, a.2.2.1) = rbF (alM ba wh nl) st (dp, qu, kn) a.2.2.2) ∧ (a.2.2.1 ≤ kn + a.2.2.2)) (fun a => [(wa, .inr (4, [.ref wv, .ref wq])), (wv, .inl (cI, 64, .inl (mA a.1))), (wq, .inl (cI, 64, .inl (iA a.2.1))), (la, .inr (1, [.ref lb, .ref lw, .int (nI nl)])), (lb, .inl (cI, 12, .inl (iA ba))), (lw, .inl (cI, 12, .inl (iA wh)))]) (fun a => [(5, .int (nI a.2.2.2)), (4, .int (nI a.2.2.1)), (0, .ref wa), (1, .ref la), (2, .int (nI st)), (3, .int (nI kn))]) ?_ (dp, qu, kn, 0) ⟨(show 0 ≤ 6 from by omega), (show (dp, qu, kn) = rbF (alM ba wh nl) st (dp, qu, kn) 0 from rfl), (show kn ≤ kn + 0 from by omega)⟩ _ _ _ hw (lv_sub hl [0, 1, 2, 3, 4, 5] rfl)
  rintro ⟨d, q, k1, i⟩ ⟨hi, ha, hk1⟩ H locs ls hw hl ih_6
  have hi : i ≤ 6 := hi
  have ha : (d, q, k1) = rbF (alM ba wh nl) st (dp, qu, kn) i := ha
  have hk1 : k1 ≤ kn + i := hk1
  have hw : WD D A s.heap [(wa, .inr (4, [.ref wv, .ref wq])), (wv, .inl (cI, 64, .inl (mA d))), (wq, .inl (cI, 64, .inl (iA q))), (la, .inr (1, [.ref lb, .ref lw, .int (nI nl)])), (lb, .inl (cI, 12, .inl (iA ba))), (lw, .inl (cI, 12, .inl (iA wh)))] H locs := hw
  have hl : lv_has ls 7 [(5, .int (nI i)), (4, .int (nI k1)), (0, .ref wa), (1, .ref la), (2, .int (nI st)), (3, .int (nI kn))] := hl
  obtain ⟨hd1, hd2, hd3⟩ := rbF_bd (aw := alM ba wh nl) (a := (dp, qu, kn)) hst1 hdB hqu i hi
  rw [← ha] at hd1 hd2 hd3
  have hd1 : d st ≤ B := hd1
  have hd2 : ∀ k, d k ≤ B + 1 := hd2
  have hd3 : ∀ k, q k < 64 := hd3
  refine lv_iload hx hb dX4_reachBack_6 (lv_at hl 0 rfl) ?_
  refine lv_bipush (v := nI 6) hx hb dX4_reachBack_8 (by decide) ?_
  refine lv_icmp_ge (tgt := 83) hx hb dX4_reachBack_10 (by decide) (fun c_10 => ?_) (fun c_10 => ?_)
  · skip
    rw [nI_leI (by omega) (by omega)] at c_10
    have ha6 : rbF (alM ba wh nl) st (dp, qu, kn) 6 = (d, q, k1) := by rw [ha, show i = 6 by omega]
    refine lv_iload hx hb dX4_reachBack_83 (lv_at hl 1 rfl) ?_
    exact x_iret X hw (⟨(by rw [ha6]), (by rw [ha6])⟩) dX4_reachBack_85
  · skip
    rw [nI_leI (by omega) (by omega)] at c_10
    have hx1 := xb_lt st hst1 i (by omega)
    refine lv_iload_n hx hb dX4_reachBack_13 rfl (lv_at hl 4 rfl) ?_
    refine lv_iconst (v := nI 1) hx hb dX4_reachBack_14 (by decide) ?_
    refine lv_iload hx hb dX4_reachBack_15 (lv_at hl 0 rfl) ?_
    refine lv_ishl hx hb dX4_reachBack_17 ?_
    refine cv_i (show (nI 1) <<< (nI i &&& 31) = nI (1 <<< i) from q_shl 1 i (by first | omega | assumption)) ?_
    refine lv_ixor hx hb dX4_reachBack_18 ?_
    refine cv_i (show nI st ^^^ nI (1 <<< i) = nI (st ^^^ (1 <<< i)) from q_xor st (1 <<< i)) ?_
    refine lv_istore (lv' := [(6, .int (nI (st ^^^ (1 <<< i)))), (5, .int (nI i)), (4, .int (nI k1)), (0, .ref wa), (1, .ref la), (2, .int (nI st)), (3, .int (nI kn))]) hx hb dX4_reachBack_19 hl (by decide) rfl (fun ls hl => ?_)
    refine lv_aload_n hx hb dX4_reachBack_21 rfl (lv_at hl 3 rfl) ?_
    refine x_get X hw f9 0 rfl rfl dX4_reachBack_22 ?_
    refine lv_iload hx hb dX4_reachBack_25 (lv_at hl 0 rfl) ?_
    refine x_aldM X hw 1 rfl (by omega) (by omega) dX4_reachBack_27 ?_
    have hb_27 := hd2 (st ^^^ (1 <<< i))
    refine lv_iconst (v := (-1)) hx hb dX4_reachBack_28 (by decide) ?_
    refine lv_icmp_ne (tgt := 77) hx hb dX4_reachBack_29 (by decide) (fun c_29 => ?_) (fun c_29 => ?_)
    · skip
      rw [q_mN (by omega)] at c_29
      refine lv_iinc (v := nI (i + 1)) (lv' := [(5, .int (nI (i + 1))), (6, .int (nI (st ^^^ (1 <<< i)))), (4, .int (nI k1)), (0, .ref wa), (1, .ref la), (2, .int (nI st)), (3, .int (nI kn))]) hx hb dX4_reachBack_77 hl (k := 1) rfl (nI_add i 1) (by decide) rfl (fun ls hl => ?_)
      refine lv_goto (tgt := 6) hx hb dX4_reachBack_80 (by decide) ?_
      exact ih_6 (d, q, k1, i + 1) (by show 6 - (i + 1) < 6 - i; omega) ⟨(show (i + 1) ≤ 6 from by omega), (show (d, q, k1) = rbF (alM ba wh nl) st (dp, qu, kn) (i + 1) from by show _ = rbS (alM ba wh nl) st i (rbF (alM ba wh nl) st (dp, qu, kn) i); rw [← ha]; first | (simp [rbS, c_29]; done) | (simp [rbS, c_29, c_40]; done) | (simp [rbS, c_29, c_40, c_47]; done) | (simp [rbS, c_29, c_40]; omega)), (show k1 ≤ kn + (i + 1) from by omega)⟩ _ _ _ hw (lv_sub hl [0, 2, 3, 4, 5, 6] rfl)
    · skip
      rw [q_mN (by omega)] at c_29
      refine lv_aload_n hx hb dX4_reachBack_32 rfl (lv_at hl 4 rfl) ?_
      refine lv_iload hx hb dX4_reachBack_33 (lv_at hl 0 rfl) ?_
      refine lv_iload hx hb dX4_reachBack_35 (lv_at hl 1 rfl) ?_
      refine x_callV (As := [.int (nI (st ^^^ (1 <<< i))), .int (nI i)]) (rest := []) X hw hl.1 (c_X1_allowMove l D cI cZ la lb lw ba wh nl (st ^^^ (1 <<< i)) i (by first | assumption | omega) (by first | assumption | omega) (by first | assumption | omega) (by first | assumption | omega) (by first | assumption | omega)) (cwV 2 hts gX4_reachBack_X1_allowMove rfl rfl rfl (by decide +kernel) ⟨Nat.le_of_ble_eq_true rfl, Nat.le_of_ble_eq_true rfl⟩) [3, 4, 5] rfl rfl 0 rfl rfl rfl rfl (Nat.le_of_ble_eq_true rfl) dX4_reachBack_37 (by decide) (fun r w1 H locs hp hw1 => ?_)
      obtain ⟨rfl, rfl⟩ := hp
      have hw : WD D A s.heap [(wa, .inr (4, [.ref wv, .ref wq])), (wv, .inl (cI, 64, .inl (mA d))), (wq, .inl (cI, 64, .inl (iA q))), (la, .inr (1, [.ref lb, .ref lw, .int (nI nl)])), (lb, .inl (cI, 12, .inl (iA ba))), (lw, .inl (cI, 12, .inl (iA wh)))] H locs := hw1 rfl
      refine lv_if_eq (tgt := 77) hx hb dX4_reachBack_40 (by decide) (fun c_40 => ?_) (fun c_40 => ?_)
      · skip
        rw [q_b0] at c_40; try simp only [Bool.not_eq_false, Bool.not_eq_true] at c_40
        refine lv_iinc (v := nI (i + 1)) (lv' := [(5, .int (nI (i + 1))), (6, .int (nI (st ^^^ (1 <<< i)))), (4, .int (nI k1)), (0, .ref wa), (1, .ref la), (2, .int (nI st)), (3, .int (nI kn))]) hx hb dX4_reachBack_77 hl (k := 1) rfl (nI_add i 1) (by decide) rfl (fun ls hl => ?_)
        refine lv_goto (tgt := 6) hx hb dX4_reachBack_80 (by decide) ?_
        exact ih_6 (d, q, k1, i + 1) (by show 6 - (i + 1) < 6 - i; omega) ⟨(show (i + 1) ≤ 6 from by omega), (show (d, q, k1) = rbF (alM ba wh nl) st (dp, qu, kn) (i + 1) from by show _ = rbS (alM ba wh nl) st i (rbF (alM ba wh nl) st (dp, qu, kn) i); rw [← ha]; first | (simp [rbS, c_29]; done) | (simp [rbS, c_29, c_40]; done) | (simp [rbS, c_29, c_40, c_47]; done) | (simp [rbS, c_29, c_40]; omega)), (show k1 ≤ kn + (i + 1) from by omega)⟩ _ _ _ hw (lv_sub hl [0, 2, 3, 4, 5, 6] rfl)
      · skip
        rw [q_b0] at c_40; try simp only [Bool.not_eq_false, Bool.not_eq_true] at c_40
        refine lv_iload hx hb dX4_reachBack_43 (lv_at hl 2 rfl) ?_
        refine lv_bipush (v := nI 64) hx hb dX4_reachBack_45 (by decide) ?_
        refine lv_icmp_ge (tgt := 77) hx hb dX4_reachBack_47 (by decide) (fun c_47 => ?_) (fun c_47 => ?_)
        · skip
          rw [nI_leI (by omega) (by omega)] at c_47
          refine lv_iinc (v := nI (i + 1)) (lv' := [(5, .int (nI (i + 1))), (6, .int (nI (st ^^^ (1 <<< i)))), (4, .int (nI k1)), (0, .ref wa), (1, .ref la), (2, .int (nI st)), (3, .int (nI kn))]) hx hb dX4_reachBack_77 hl (k := 1) rfl (nI_add i 1) (by decide) rfl (fun ls hl => ?_)
          refine lv_goto (tgt := 6) hx hb dX4_reachBack_80 (by decide) ?_
          exact ih_6 (d, q, k1, i + 1) (by show 6 - (i + 1) < 6 - i; omega) ⟨(show (i + 1) ≤ 6 from by omega), (show (d, q, k1) = rbF (alM ba wh nl) st (dp, qu, kn) (i + 1) from by show _ = rbS (alM ba wh nl) st i (rbF (alM ba wh nl) st (dp, qu, kn) i); rw [← ha]; first | (simp [rbS, c_29]; done) | (simp [rbS, c_29, c_40]; done) | (simp [rbS, c_29, c_40, c_47]; done) | (simp [rbS, c_29, c_40]; omega)), (show k1 ≤ kn + (i + 1) from by omega)⟩ _ _ _ hw (lv_sub hl [0, 2, 3, 4, 5, 6] rfl)
        · skip
          rw [nI_leI (by omega) (by omega)] at c_47
          refine lv_aload_n hx hb dX4_reachBack_50 rfl (lv_at hl 3 rfl) ?_
          refine x_get X hw f9 0 rfl rfl dX4_reachBack_51 ?_
          refine lv_iload hx hb dX4_reachBack_54 (lv_at hl 0 rfl) ?_
          refine lv_aload_n hx hb dX4_reachBack_56 rfl (lv_at hl 3 rfl) ?_
          refine x_get X hw f9 0 rfl rfl dX4_reachBack_57 ?_
          refine lv_iload_n hx hb dX4_reachBack_60 rfl (lv_at hl 5 rfl) ?_
          refine x_aldM X hw 1 rfl (by omega) (by omega) dX4_reachBack_61 ?_
          have hb_61 := hd2 st
          refine lv_iconst (v := nI 1) hx hb dX4_reachBack_62 (by decide) ?_
          refine lv_iadd hx hb dX4_reachBack_63 ?_
          refine cv_i (show mI (d st) + nI 1 = nI (d st) from q_mp (d st)) ?_
          refine cv_i (show nI (d st) = mI ((d st) + 1) from (nI_pred (d st)).symm) ?_
          refine x_astM X hw 1 rfl (by omega) (by omega) dX4_reachBack_64 (fun H locs hw => ?_)
          have hw : WD D A s.heap [(wa, .inr (4, [.ref wv, .ref wq])), (wv, .inl (cI, 64, .inl (mA (va_up d (st ^^^ (1 <<< i)) ((d st) + 1))))), (wq, .inl (cI, 64, .inl (iA q))), (la, .inr (1, [.ref lb, .ref lw, .int (nI nl)])), (lb, .inl (cI, 12, .inl (iA ba))), (lw, .inl (cI, 12, .inl (iA wh)))] H locs := hw
          refine lv_aload_n hx hb dX4_reachBack_65 rfl (lv_at hl 3 rfl) ?_
          refine x_get X hw f15 0 rfl rfl dX4_reachBack_66 ?_
          refine lv_iload hx hb dX4_reachBack_69 (lv_at hl 2 rfl) ?_
          refine lv_iload hx hb dX4_reachBack_71 (lv_at hl 0 rfl) ?_
          refine x_astN X hw 2 rfl (by omega) (by omega) dX4_reachBack_73 (fun H locs hw => ?_)
          have hw : WD D A s.heap [(wa, .inr (4, [.ref wv, .ref wq])), (wv, .inl (cI, 64, .inl (mA (va_up d (st ^^^ (1 <<< i)) ((d st) + 1))))), (wq, .inl (cI, 64, .inl (iA (va_up q k1 (st ^^^ (1 <<< i)))))), (la, .inr (1, [.ref lb, .ref lw, .int (nI nl)])), (lb, .inl (cI, 12, .inl (iA ba))), (lw, .inl (cI, 12, .inl (iA wh)))] H locs := hw
          refine lv_iinc (v := nI (k1 + 1)) (lv' := [(4, .int (nI (k1 + 1))), (6, .int (nI (st ^^^ (1 <<< i)))), (5, .int (nI i)), (0, .ref wa), (1, .ref la), (2, .int (nI st)), (3, .int (nI kn))]) hx hb dX4_reachBack_74 hl (k := 2) rfl (nI_add k1 1) (by decide) rfl (fun ls hl => ?_)
          refine lv_iinc (v := nI (i + 1)) (lv' := [(5, .int (nI (i + 1))), (4, .int (nI (k1 + 1))), (6, .int (nI (st ^^^ (1 <<< i)))), (0, .ref wa), (1, .ref la), (2, .int (nI st)), (3, .int (nI kn))]) hx hb dX4_reachBack_77 hl (k := 2) rfl (nI_add i 1) (by decide) rfl (fun ls hl => ?_)
          refine lv_goto (tgt := 6) hx hb dX4_reachBack_80 (by decide) ?_
          exact ih_6 (va_up d (st ^^^ (1 <<< i)) ((d st) + 1), va_up q k1 (st ^^^ (1 <<< i)), k1 + 1, i + 1) (by show 6 - (i + 1) < 6 - i; omega) ⟨(show (i + 1) ≤ 6 from by omega), (show ((va_up d (st ^^^ (1 <<< i)) ((d st) + 1)), (va_up q k1 (st ^^^ (1 <<< i))), (k1 + 1)) = rbF (alM ba wh nl) st (dp, qu, kn) (i + 1) from by show _ = rbS (alM ba wh nl) st i (rbF (alM ba wh nl) st (dp, qu, kn) i); rw [← ha]; first | (simp [rbS, c_29]; done) | (simp [rbS, c_29, c_40]; done) | (simp [rbS, c_29, c_40, c_47]; done) | (simp [rbS, c_29, c_40]; omega)), (show (k1 + 1) ≤ kn + (i + 1) from by omega)⟩ _ _ _ hw (lv_sub hl [0, 1, 3, 4, 5, 6] rfl)
set_option maxHeartbeats 4000000 in
set_option maxRecDepth 100000 in
theorem c_X4_measure (l : Launch) (D : va_G) (cI cZ : ClassId) (wa : Nat) (wv : Nat) (wq : Nat) (dp : Nat → Nat) (qu : Nat → Nat) (la : Nat) (lb : Nat) (lw : Nat) (ba : Nat → Nat) (wh : Nat → Nat) (nl : Nat) (hnl : nl ≤ 12) (hba : ∀ k, ba k < 12) (hwh : ∀ k, wh k < 12) (hqu : ∀ k, qu k < 64) : MV l D cI cZ yX4_measure wsX4_measure ({ frames := 5, cells := 0, slots := 0, locals := 116 }) [.ref wa, .ref la] [(wa, .inr (4, [.ref wv, .ref wq])), (wv, .inl (cI, 64, .inl (mA dp))), (wq, .inl (cI, 64, .inl (iA qu))), (la, .inr (1, [.ref lb, .ref lw, .int (nI nl)])), (lb, .inl (cI, 12, .inl (iA ba))), (lw, .inl (cI, 12, .inl (iA wh)))] 0 0 (fun w => w = [(wa, .inr (4, [.ref wv, .ref wq])), (wv, .inl (cI, 64, .inl (mA ((msF (alM ba wh nl) qu 64).1)))), (wq, .inl (cI, 64, .inl (iA ((msF (alM ba wh nl) qu 64).2.1)))), (la, .inr (1, [.ref lb, .ref lw, .int (nI nl)])), (lb, .inl (cI, 12, .inl (iA ba))), (lw, .inl (cI, 12, .inl (iA wh)))]) := by
  refine MV.of (cc := cX4_measure) (maxL := 4) (ret := none) (own := RX4) (by decide) rfl rfl (Nat.le_of_ble_eq_true rfl) ?_
  intro pQ eQ s mQ args below meth cQ A X hnm hw ls hl
  obtain ⟨⟨hx, hb, hml, hown, hts⟩, hr, hlk, hK, hN, hA⟩ := id X
  have hl : lv_has ls 4 [(0, .ref wa), (1, .ref la)] := hl
  have n4 : ∀ w ∈ wsX40, w ∈ wsX4_measure := by decide +kernel
  have f9 : FF args s RX4 wsX4_measure 9 4 0 := ⟨_, rfl, by decide, n4, hts (.fieldLink RX4 9 "AirSteps$Ways" "lengths" "[I") (by decide +kernel)⟩
  have f15 : FF args s RX4 wsX4_measure 15 4 1 := ⟨_, rfl, by decide, n4, hts (.fieldLink RX4 15 "AirSteps$Ways" "queue" "[I") (by decide +kernel)⟩
  refine lv_iconst (v := nI 0) hx hb dX4_measure_0 (by decide) ?_
  refine lv_istore_n (lv' := [(2, .int (nI 0)), (0, .ref wa), (1, .ref la)]) hx hb dX4_measure_1 rfl hl (by decide) rfl (fun ls hl => ?_)
  refine wl (α := (Nat → Nat) × Nat) (nL := 4) (fun a => 64 - a.2) (fun a => (a.2 ≤ 64) ∧ (∀ j, j < a.2 → a.1 j = 0)) (fun a => [(wa, .inr (4, [.ref wv, .ref wq])), (wv, .inl (cI, 64, .inl (mA a.1))), (wq, .inl (cI, 64, .inl (iA qu))), (la, .inr (1, [.ref lb, .ref lw, .int (nI nl)])), (lb, .inl (cI, 12, .inl (iA ba))), (lw, .inl (cI, 12, .inl (iA wh)))]) (fun a => [(2, .int (nI a.2)), (0, .ref wa), (1, .ref la)]) ?_ (dp, 0) ⟨(show 0 ≤ 64 from by omega), (show ∀ j, j < 0 → dp j = 0 from fun j hj => absurd hj (Nat.not_lt_zero j))⟩ _ _ _ hw (lv_sub hl [0, 1, 2] rfl)
  rintro ⟨d, i⟩ ⟨hi, hd⟩ H locs ls hw hl ih_2
  have hi : i ≤ 64 := hi
  have hd : ∀ j, j < i → d j = 0 := hd
  have hw : WD D A s.heap [(wa, .inr (4, [.ref wv, .ref wq])), (wv, .inl (cI, 64, .inl (mA d))), (wq, .inl (cI, 64, .inl (iA qu))), (la, .inr (1, [.ref lb, .ref lw, .int (nI nl)])), (lb, .inl (cI, 12, .inl (iA ba))), (lw, .inl (cI, 12, .inl (iA wh)))] H locs := hw
  have hl : lv_has ls 4 [(2, .int (nI i)), (0, .ref wa), (1, .ref la)] := hl
  refine lv_iload_n hx hb dX4_measure_2 rfl (lv_at hl 0 rfl) ?_
  refine lv_bipush (v := nI 64) hx hb dX4_measure_3 (by decide) ?_
  refine lv_icmp_ge (tgt := 21) hx hb dX4_measure_5 (by decide) (fun c_5 => ?_) (fun c_5 => ?_)
  · skip
    rw [nI_leI (by omega) (by omega)] at c_5
    have hw := WD.ext hw 1 rfl (fun j hj => congrArg mI (hd j (by omega)))
    have hw : WD D A s.heap [(wa, .inr (4, [.ref wv, .ref wq])), (wv, .inl (cI, 64, .inl (mA (fun _ => 0)))), (wq, .inl (cI, 64, .inl (iA qu))), (la, .inr (1, [.ref lb, .ref lw, .int (nI nl)])), (lb, .inl (cI, 12, .inl (iA ba))), (lw, .inl (cI, 12, .inl (iA wh)))] H locs := hw
    refine lv_aload_n hx hb dX4_measure_21 rfl (lv_at hl 1 rfl) ?_
    refine x_get X hw f9 0 rfl rfl dX4_measure_22 ?_
    refine lv_iconst (v := nI 0) hx hb dX4_measure_25 (by decide) ?_
    refine lv_iconst (v := nI 0) hx hb dX4_measure_26 (by decide) ?_
    refine cv_i (show nI 0 = mI (0 + 1) from (nI_pred 0).symm) ?_
    refine x_astM X hw 1 rfl (by omega) (by omega) dX4_measure_27 (fun H locs hw => ?_)
    have hw : WD D A s.heap [(wa, .inr (4, [.ref wv, .ref wq])), (wv, .inl (cI, 64, .inl (mA (va_up (fun _ => 0) 0 (0 + 1))))), (wq, .inl (cI, 64, .inl (iA qu))), (la, .inr (1, [.ref lb, .ref lw, .int (nI nl)])), (lb, .inl (cI, 12, .inl (iA ba))), (lw, .inl (cI, 12, .inl (iA wh)))] H locs := hw
    refine lv_aload_n hx hb dX4_measure_28 rfl (lv_at hl 1 rfl) ?_
    refine x_get X hw f15 0 rfl rfl dX4_measure_29 ?_
    refine lv_iconst (v := nI 0) hx hb dX4_measure_32 (by decide) ?_
    refine lv_iconst (v := nI 0) hx hb dX4_measure_33 (by decide) ?_
    refine x_astN X hw 2 rfl (by omega) (by omega) dX4_measure_34 (fun H locs hw => ?_)
    have hw : WD D A s.heap [(wa, .inr (4, [.ref wv, .ref wq])), (wv, .inl (cI, 64, .inl (mA (va_up (fun _ => 0) 0 (0 + 1))))), (wq, .inl (cI, 64, .inl (iA (va_up qu 0 0)))), (la, .inr (1, [.ref lb, .ref lw, .int (nI nl)])), (lb, .inl (cI, 12, .inl (iA ba))), (lw, .inl (cI, 12, .inl (iA wh)))] H locs := hw
    refine lv_iconst (v := nI 1) hx hb dX4_measure_35 (by decide) ?_
    refine lv_istore_n (lv' := [(2, .int (nI 1)), (0, .ref wa), (1, .ref la)]) hx hb dX4_measure_36 rfl hl (by decide) rfl (fun ls hl => ?_)
    refine lv_iconst (v := nI 0) hx hb dX4_measure_37 (by decide) ?_
    refine lv_istore_n (lv' := [(3, .int (nI 0)), (2, .int (nI 1)), (0, .ref wa), (1, .ref la)]) hx hb dX4_measure_38 rfl hl (by decide) rfl (fun ls hl => ?_)
    refine wl (α := (Nat → Nat) × (Nat → Nat) × Nat × Nat) (nL := 4) (fun a => 64 - a.2.2.2) (fun a => (a.2.2.2 ≤ 64) ∧ ((a.1, a.2.1, a.2.2.1) = msF (alM ba wh nl) qu a.2.2.2) ∧ (a.2.2.1 ≤ 1 + 6 * a.2.2.2)) (fun a => [(wa, .inr (4, [.ref wv, .ref wq])), (wv, .inl (cI, 64, .inl (mA a.1))), (wq, .inl (cI, 64, .inl (iA a.2.1))), (la, .inr (1, [.ref lb, .ref lw, .int (nI nl)])), (lb, .inl (cI, 12, .inl (iA ba))), (lw, .inl (cI, 12, .inl (iA wh)))]) (fun a => [(3, .int (nI a.2.2.2)), (2, .int (nI a.2.2.1)), (0, .ref wa), (1, .ref la)]) ?_ (va_up (fun _ => 0) 0 (0 + 1), va_up qu 0 0, 1, 0) ⟨(show 0 ≤ 64 from by omega), (show ((va_up (fun _ => 0) 0 (0 + 1)), (va_up qu 0 0), 1) = msF (alM ba wh nl) qu 0 from rfl), (show 1 ≤ 1 + 6 * 0 from by omega)⟩ _ _ _ hw (lv_sub hl [0, 1, 2, 3] rfl)
    rintro ⟨d, q, k1, i⟩ ⟨hi, ha, hk1⟩ H locs ls hw hl ih_39
    have hi : i ≤ 64 := hi
    have ha : (d, q, k1) = msF (alM ba wh nl) qu i := ha
    have hk1 : k1 ≤ 1 + 6 * i := hk1
    have hw : WD D A s.heap [(wa, .inr (4, [.ref wv, .ref wq])), (wv, .inl (cI, 64, .inl (mA d))), (wq, .inl (cI, 64, .inl (iA q))), (la, .inr (1, [.ref lb, .ref lw, .int (nI nl)])), (lb, .inl (cI, 12, .inl (iA ba))), (lw, .inl (cI, 12, .inl (iA wh)))] H locs := hw
    have hl : lv_has ls 4 [(3, .int (nI i)), (2, .int (nI k1)), (0, .ref wa), (1, .ref la)] := hl
    obtain ⟨hd2, hd3⟩ := msF_bd (aw := alM ba wh nl) hqu i
    rw [← ha] at hd2 hd3
    have hd2 : ∀ k, d k ≤ i + 1 := hd2
    have hd3 : ∀ k, q k < 64 := hd3
    refine lv_iload_n hx hb dX4_measure_39 rfl (lv_at hl 0 rfl) ?_
    refine lv_iload_n hx hb dX4_measure_40 rfl (lv_at hl 1 rfl) ?_
    refine lv_icmp_ge (tgt := 69) hx hb dX4_measure_41 (by decide) (fun c_41 => ?_) (fun c_41 => ?_)
    · skip
      rw [nI_leI (by omega) (by omega)] at c_41
      have hfin : msF (alM ba wh nl) qu 64 = (d, q, k1) := by first | (rw [show 64 = i by omega, ← ha]; done) | (have h9 := msF_stay (aw := alM ba wh nl) (q := qu) (i := i) (by rw [← ha]; show ¬ i < k1; omega) (64 - i); rw [show i + (64 - i) = 64 by omega] at h9; rw [h9, ← ha])
      exact x_vret X hw ((by rw [hfin])) dX4_measure_69
    · skip
      rw [nI_leI (by omega) (by omega)] at c_41
      refine lv_iload_n hx hb dX4_measure_44 rfl (lv_at hl 0 rfl) ?_
      refine lv_bipush (v := nI 64) hx hb dX4_measure_45 (by decide) ?_
      refine lv_icmp_ge (tgt := 69) hx hb dX4_measure_47 (by decide) (fun c_47 => ?_) (fun c_47 => ?_)
      · skip
        rw [nI_leI (by omega) (by omega)] at c_47
        have hfin : msF (alM ba wh nl) qu 64 = (d, q, k1) := by first | (rw [show 64 = i by omega, ← ha]; done) | (have h9 := msF_stay (aw := alM ba wh nl) (q := qu) (i := i) (by rw [← ha]; show ¬ i < k1; omega) (64 - i); rw [show i + (64 - i) = 64 by omega] at h9; rw [h9, ← ha])
        exact x_vret X hw ((by rw [hfin])) dX4_measure_69
      · skip
        rw [nI_leI (by omega) (by omega)] at c_47
        refine lv_aload_n hx hb dX4_measure_50 rfl (lv_at hl 2 rfl) ?_
        refine lv_aload_n hx hb dX4_measure_51 rfl (lv_at hl 3 rfl) ?_
        refine lv_aload_n hx hb dX4_measure_52 rfl (lv_at hl 2 rfl) ?_
        refine x_get X hw f15 0 rfl rfl dX4_measure_53 ?_
        refine lv_iload_n hx hb dX4_measure_56 rfl (lv_at hl 0 rfl) ?_
        refine x_aldN X hw 2 rfl (by omega) (by omega) dX4_measure_57 ?_
        have hb_57 := hd3 i
        refine lv_iload_n hx hb dX4_measure_58 rfl (lv_at hl 1 rfl) ?_
        refine x_callV (As := [.ref la, .int (nI (q i)), .int (nI k1)]) (rest := []) X hw hl.1 (c_X4_reachBack l D cI cZ wa wv wq d q la lb lw ba wh nl (q i) k1 (i + 1) (by first | assumption | omega) (by first | assumption | omega) (by first | assumption | omega) (by first | assumption | omega) (by first | assumption | omega) (by first | assumption | omega) (by first | assumption | omega) (by first | assumption | omega)) (cwV 3 hts gX4_measure_X4_reachBack rfl rfl rfl (by decide +kernel) ⟨Nat.le_of_ble_eq_true rfl, Nat.le_of_ble_eq_true rfl⟩) [0, 1, 2, 3, 4, 5] rfl rfl 0 rfl rfl rfl rfl (Nat.le_of_ble_eq_true rfl) dX4_measure_59 (by decide) (fun r w1 H locs hp hw1 => ?_)
        obtain ⟨rfl, rfl⟩ := hp
        have hw : WD D A s.heap [(wa, .inr (4, [.ref wv, .ref wq])), (wv, .inl (cI, 64, .inl (mA ((rbF (alM ba wh nl) (q i) (d, q, k1) 6).1)))), (wq, .inl (cI, 64, .inl (iA ((rbF (alM ba wh nl) (q i) (d, q, k1) 6).2.1)))), (la, .inr (1, [.ref lb, .ref lw, .int (nI nl)])), (lb, .inl (cI, 12, .inl (iA ba))), (lw, .inl (cI, 12, .inl (iA wh)))] H locs := hw1 rfl
        refine lv_istore_n (lv' := [(2, .int (nI ((rbF (alM ba wh nl) (q i) (d, q, k1) 6).2.2))), (3, .int (nI i)), (0, .ref wa), (1, .ref la)]) hx hb dX4_measure_62 rfl hl (by decide) rfl (fun ls hl => ?_)
        refine lv_iinc (v := nI (i + 1)) (lv' := [(3, .int (nI (i + 1))), (2, .int (nI ((rbF (alM ba wh nl) (q i) (d, q, k1) 6).2.2))), (0, .ref wa), (1, .ref la)]) hx hb dX4_measure_63 hl (k := 1) rfl (nI_add i 1) (by decide) rfl (fun ls hl => ?_)
        refine lv_goto (tgt := 39) hx hb dX4_measure_66 (by decide) ?_
        exact ih_39 ((rbF (alM ba wh nl) (q i) (d, q, k1) 6).1, (rbF (alM ba wh nl) (q i) (d, q, k1) 6).2.1, (rbF (alM ba wh nl) (q i) (d, q, k1) 6).2.2, i + 1) (by show 64 - (i + 1) < 64 - i; omega) ⟨(show (i + 1) ≤ 64 from by omega), (show (((rbF (alM ba wh nl) (q i) (d, q, k1) 6).1), ((rbF (alM ba wh nl) (q i) (d, q, k1) 6).2.1), ((rbF (alM ba wh nl) (q i) (d, q, k1) 6).2.2)) = msF (alM ba wh nl) qu (i + 1) from by show _ = msS (alM ba wh nl) i (msF (alM ba wh nl) qu i); rw [← ha]; simp [msS, c_41]), (show ((rbF (alM ba wh nl) (q i) (d, q, k1) 6).2.2) ≤ 1 + 6 * (i + 1) from Nat.le_trans (rbF_kn (K := 1 + 6 * i) hk1) (by omega))⟩ _ _ _ hw (lv_sub hl [0, 1, 2, 3] rfl)
  · skip
    rw [nI_leI (by omega) (by omega)] at c_5
    refine lv_aload_n hx hb dX4_measure_8 rfl (lv_at hl 1 rfl) ?_
    refine x_get X hw f9 0 rfl rfl dX4_measure_9 ?_
    refine lv_iload_n hx hb dX4_measure_12 rfl (lv_at hl 0 rfl) ?_
    refine lv_iconst (v := (-1)) hx hb dX4_measure_13 (by decide) ?_
    refine cv_i (show (-1) = mI 0 from (by decide)) ?_
    refine x_astM X hw 1 rfl (by omega) (by omega) dX4_measure_14 (fun H locs hw => ?_)
    have hw : WD D A s.heap [(wa, .inr (4, [.ref wv, .ref wq])), (wv, .inl (cI, 64, .inl (mA (va_up d i 0)))), (wq, .inl (cI, 64, .inl (iA qu))), (la, .inr (1, [.ref lb, .ref lw, .int (nI nl)])), (lb, .inl (cI, 12, .inl (iA ba))), (lw, .inl (cI, 12, .inl (iA wh)))] H locs := hw
    refine lv_iinc (v := nI (i + 1)) (lv' := [(2, .int (nI (i + 1))), (0, .ref wa), (1, .ref la)]) hx hb dX4_measure_15 hl (k := 0) rfl (nI_add i 1) (by decide) rfl (fun ls hl => ?_)
    refine lv_goto (tgt := 2) hx hb dX4_measure_18 (by decide) ?_
    exact ih_2 (va_up d i 0, i + 1) (by show 64 - (i + 1) < 64 - i; omega) ⟨(show (i + 1) ≤ 64 from by omega), (show ∀ j, j < (i + 1) → (va_up d i 0) j = 0 from up_zero hd)⟩ _ _ _ hw (lv_sub hl [0, 1, 2] rfl)
end
section
/-! ===== AirSteps.Ways: roads ===== -/
set_option maxHeartbeats 4000000 in
set_option maxRecDepth 100000 in
theorem c_X4_nextCylinder (l : Launch) (D : va_G) (cI cZ : ClassId) (wa : Nat) (wv : Nat) (wq : Nat) (dp : Nat → Nat) (qu : Nat → Nat) (la : Nat) (lb : Nat) (lw : Nat) (ba : Nat → Nat) (wh : Nat → Nat) (nl : Nat) (st : Nat) (hnl : nl ≤ 12) (hba : ∀ k, ba k < 12) (hwh : ∀ k, wh k < 12) (hdp : ∀ k, dp k < 1000) (hqu : ∀ k, qu k < 64) (hst1 : st < 64) : MI l D cI cZ yX4_nextCylinder wsX4_nextCylinder ({ frames := 4, cells := 0, slots := 0, locals := 90 }) [.ref wa, .ref la, .int (nI st)] [(wa, .inr (4, [.ref wv, .ref wq])), (wv, .inl (cI, 64, .inl (mA dp))), (wq, .inl (cI, 64, .inl (iA qu))), (la, .inr (1, [.ref lb, .ref lw, .int (nI nl)])), (lb, .inl (cI, 12, .inl (iA ba))), (lw, .inl (cI, 12, .inl (iA wh)))] (fun r w => r = nI (nxt (alM ba wh nl) dp st) ∧ w = [(wa, .inr (4, [.ref wv, .ref wq])), (wv, .inl (cI, 64, .inl (mA dp))), (wq, .inl (cI, 64, .inl (iA qu))), (la, .inr (1, [.ref lb, .ref lw, .int (nI nl)])), (lb, .inl (cI, 12, .inl (iA ba))), (lw, .inl (cI, 12, .inl (iA wh)))]) := by
  refine MI.of (cc := cX4_nextCylinder) (maxL := 5) (ret := (some .int)) (own := RX4) (by decide) rfl rfl (Nat.le_of_ble_eq_true rfl) ?_
  intro pQ eQ s mQ args below meth cQ A X hw ls hl
  obtain ⟨⟨hx, hb, hml, hown, hts⟩, hr, hlk, hK, hN, hA⟩ := id X
  have hl : lv_has ls 5 [(0, .ref wa), (1, .ref la), (2, .int (nI st))] := hl
  refine lv_aload_n hx hb dX4_nextCylinder_0 rfl (lv_at hl 0 rfl) ?_
  refine lv_iload_n hx hb dX4_nextCylinder_1 rfl (lv_at hl 2 rfl) ?_
  refine x_callV (As := [.int (nI st)]) (rest := []) X hw hl.1 (c_X4_length l D cI cZ wa wv wq dp qu st (by first | assumption | omega)) (cwV 1 hts gX4_nextCylinder_X4_length rfl rfl rfl (by decide +kernel) ⟨Nat.le_of_ble_eq_true rfl, Nat.le_of_ble_eq_true rfl⟩) [0, 1, 2] rfl rfl 0 rfl rfl rfl rfl (Nat.le_of_ble_eq_true rfl) dX4_nextCylinder_2 (by decide) (fun r w1 H locs hp hw1 => ?_)
  obtain ⟨rfl, rfl⟩ := hp
  have hw : WD D A s.heap [(wa, .inr (4, [.ref wv, .ref wq])), (wv, .inl (cI, 64, .inl (mA dp))), (wq, .inl (cI, 64, .inl (iA qu))), (la, .inr (1, [.ref lb, .ref lw, .int (nI nl)])), (lb, .inl (cI, 12, .inl (iA ba))), (lw, .inl (cI, 12, .inl (iA wh)))] H locs := hw1 rfl
  refine lv_istore_n (lv' := [(3, .int (mI (dp st))), (0, .ref wa), (1, .ref la), (2, .int (nI st))]) hx hb dX4_nextCylinder_5 rfl hl (by decide) rfl (fun ls hl => ?_)
  refine lv_iconst (v := nI 0) hx hb dX4_nextCylinder_6 (by decide) ?_
  refine lv_istore (lv' := [(4, .int (nI 0)), (3, .int (mI (dp st))), (0, .ref wa), (1, .ref la), (2, .int (nI st))]) hx hb dX4_nextCylinder_7 hl (by decide) rfl (fun ls hl => ?_)
  refine wl (α := Nat) (nL := 5) (fun a => 6 - a) (fun a => (a ≤ 6) ∧ (∀ j, j < a → nxP (alM ba wh nl) dp st j = false)) (fun a => [(wa, .inr (4, [.ref wv, .ref wq])), (wv, .inl (cI, 64, .inl (mA dp))), (wq, .inl (cI, 64, .inl (iA qu))), (la, .inr (1, [.ref lb, .ref lw, .int (nI nl)])), (lb, .inl (cI, 12, .inl (iA ba))), (lw, .inl (cI, 12, .inl (iA wh)))]) (fun a => [(4, .int (nI a)), (3, .int (mI (dp st))), (0, .ref wa), (1, .ref la), (2, .int (nI st))]) ?_ 0 ⟨(show 0 ≤ 6 from by omega), (show ∀ j, j < 0 → nxP (alM ba wh nl) dp st j = false from fun j hj => absurd hj (Nat.not_lt_zero j))⟩ _ _ _ hw (lv_sub hl [0, 1, 2, 3, 4] rfl)
  rintro i ⟨hi, hq⟩ H locs ls hw hl ih_9
  have hi : i ≤ 6 := hi
  have hq : ∀ j, j < i → nxP (alM ba wh nl) dp st j = false := hq
  have hw : WD D A s.heap [(wa, .inr (4, [.ref wv, .ref wq])), (wv, .inl (cI, 64, .inl (mA dp))), (wq, .inl (cI, 64, .inl (iA qu))), (la, .inr (1, [.ref lb, .ref lw, .int (nI nl)])), (lb, .inl (cI, 12, .inl (iA ba))), (lw, .inl (cI, 12, .inl (iA wh)))] H locs := hw
  have hl : lv_has ls 5 [(4, .int (nI i)), (3, .int (mI (dp st))), (0, .ref wa), (1, .ref la), (2, .int (nI st))] := hl
  refine lv_iload hx hb dX4_nextCylinder_9 (lv_at hl 0 rfl) ?_
  refine lv_bipush (v := nI 6) hx hb dX4_nextCylinder_11 (by decide) ?_
  refine lv_icmp_ge (tgt := 51) hx hb dX4_nextCylinder_13 (by decide) (fun c_13 => ?_) (fun c_13 => ?_)
  · skip
    rw [nI_leI (by omega) (by omega)] at c_13
    refine lv_iconst (v := nI 0) hx hb dX4_nextCylinder_51 (by decide) ?_
    exact x_iret X hw (⟨(congrArg nI (by unfold nxt; rw [fs_eq (k := 6) (by omega) (fun j hj => hq j (by omega)) (Or.inl rfl), if_neg (by omega)])), rfl⟩) dX4_nextCylinder_52
  · skip
    rw [nI_leI (by omega) (by omega)] at c_13
    have hx1 := xb_lt st hst1 i (by omega)
    refine lv_aload_n hx hb dX4_nextCylinder_16 rfl (lv_at hl 2 rfl) ?_
    refine lv_iload_n hx hb dX4_nextCylinder_17 rfl (lv_at hl 4 rfl) ?_
    refine lv_iconst (v := nI 1) hx hb dX4_nextCylinder_18 (by decide) ?_
    refine lv_iload hx hb dX4_nextCylinder_19 (lv_at hl 0 rfl) ?_
    refine lv_ishl hx hb dX4_nextCylinder_21 ?_
    refine cv_i (show (nI 1) <<< (nI i &&& 31) = nI (1 <<< i) from q_shl 1 i (by first | omega | assumption)) ?_
    refine lv_ixor hx hb dX4_nextCylinder_22 ?_
    refine cv_i (show nI st ^^^ nI (1 <<< i) = nI (st ^^^ (1 <<< i)) from q_xor st (1 <<< i)) ?_
    refine x_callV (As := [.int (nI (st ^^^ (1 <<< i)))]) (rest := []) X hw hl.1 (c_X4_length l D cI cZ wa wv wq dp qu (st ^^^ (1 <<< i)) (by first | assumption | omega)) (cwV 1 hts gX4_nextCylinder_X4_length rfl rfl rfl (by decide +kernel) ⟨Nat.le_of_ble_eq_true rfl, Nat.le_of_ble_eq_true rfl⟩) [0, 1, 2] rfl rfl 0 rfl rfl rfl rfl (Nat.le_of_ble_eq_true rfl) dX4_nextCylinder_23 (by decide) (fun r w1 H locs hp hw1 => ?_)
    obtain ⟨rfl, rfl⟩ := hp
    have hw : WD D A s.heap [(wa, .inr (4, [.ref wv, .ref wq])), (wv, .inl (cI, 64, .inl (mA dp))), (wq, .inl (cI, 64, .inl (iA qu))), (la, .inr (1, [.ref lb, .ref lw, .int (nI nl)])), (lb, .inl (cI, 12, .inl (iA ba))), (lw, .inl (cI, 12, .inl (iA wh)))] H locs := hw1 rfl
    refine lv_iload_n hx hb dX4_nextCylinder_26 rfl (lv_at hl 1 rfl) ?_
    refine lv_iconst (v := nI 1) hx hb dX4_nextCylinder_27 (by decide) ?_
    refine lv_isub hx hb dX4_nextCylinder_28 ?_
    refine lv_icmp_ne (tgt := 45) hx hb dX4_nextCylinder_29 (by decide) (fun c_29 => ?_) (fun c_29 => ?_)
    · skip
      rw [q_mm (by have := hdp (st ^^^ 1 <<< i); omega) (by have := hdp st; omega)] at c_29
      refine lv_iinc (v := nI (i + 1)) (lv' := [(4, .int (nI (i + 1))), (3, .int (mI (dp st))), (0, .ref wa), (1, .ref la), (2, .int (nI st))]) hx hb dX4_nextCylinder_45 hl (k := 0) rfl (nI_add i 1) (by decide) rfl (fun ls hl => ?_)
      refine lv_goto (tgt := 9) hx hb dX4_nextCylinder_48 (by decide) ?_
      exact ih_9 (i + 1) (by show 6 - (i + 1) < 6 - i; omega) ⟨(show (i + 1) ≤ 6 from by omega), (show ∀ j, j < (i + 1) → nxP (alM ba wh nl) dp st j = false from lt_snoc hq (by first | (simp [nxP, c_29]; done) | (simp [nxP, c_39]; done)))⟩ _ _ _ hw (lv_sub hl [0, 1, 2, 3, 4] rfl)
    · skip
      rw [q_mm (by have := hdp (st ^^^ 1 <<< i); omega) (by have := hdp st; omega)] at c_29
      refine lv_aload_n hx hb dX4_nextCylinder_32 rfl (lv_at hl 3 rfl) ?_
      refine lv_iload_n hx hb dX4_nextCylinder_33 rfl (lv_at hl 4 rfl) ?_
      refine lv_iload hx hb dX4_nextCylinder_34 (lv_at hl 0 rfl) ?_
      refine x_callV (As := [.int (nI st), .int (nI i)]) (rest := []) X hw hl.1 (c_X1_allowMove l D cI cZ la lb lw ba wh nl st i (by first | assumption | omega) (by first | assumption | omega) (by first | assumption | omega) (by first | assumption | omega) (by first | assumption | omega)) (cwV 2 hts gX4_nextCylinder_X1_allowMove rfl rfl rfl (by decide +kernel) ⟨Nat.le_of_ble_eq_true rfl, Nat.le_of_ble_eq_true rfl⟩) [3, 4, 5] rfl rfl 0 rfl rfl rfl rfl (Nat.le_of_ble_eq_true rfl) dX4_nextCylinder_36 (by decide) (fun r w1 H locs hp hw1 => ?_)
      obtain ⟨rfl, rfl⟩ := hp
      have hw : WD D A s.heap [(wa, .inr (4, [.ref wv, .ref wq])), (wv, .inl (cI, 64, .inl (mA dp))), (wq, .inl (cI, 64, .inl (iA qu))), (la, .inr (1, [.ref lb, .ref lw, .int (nI nl)])), (lb, .inl (cI, 12, .inl (iA ba))), (lw, .inl (cI, 12, .inl (iA wh)))] H locs := hw1 rfl
      refine lv_if_eq (tgt := 45) hx hb dX4_nextCylinder_39 (by decide) (fun c_39 => ?_) (fun c_39 => ?_)
      · skip
        rw [q_b0] at c_39; try simp only [Bool.not_eq_false, Bool.not_eq_true] at c_39
        refine lv_iinc (v := nI (i + 1)) (lv' := [(4, .int (nI (i + 1))), (3, .int (mI (dp st))), (0, .ref wa), (1, .ref la), (2, .int (nI st))]) hx hb dX4_nextCylinder_45 hl (k := 0) rfl (nI_add i 1) (by decide) rfl (fun ls hl => ?_)
        refine lv_goto (tgt := 9) hx hb dX4_nextCylinder_48 (by decide) ?_
        exact ih_9 (i + 1) (by show 6 - (i + 1) < 6 - i; omega) ⟨(show (i + 1) ≤ 6 from by omega), (show ∀ j, j < (i + 1) → nxP (alM ba wh nl) dp st j = false from lt_snoc hq (by first | (simp [nxP, c_29]; done) | (simp [nxP, c_39]; done)))⟩ _ _ _ hw (lv_sub hl [0, 1, 2, 3, 4] rfl)
      · skip
        rw [q_b0] at c_39; try simp only [Bool.not_eq_false, Bool.not_eq_true] at c_39
        refine lv_iload hx hb dX4_nextCylinder_42 (lv_at hl 0 rfl) ?_
        exact x_iret X hw (⟨(congrArg nI (by unfold nxt; rw [fs_eq (k := i) (by omega) hq (Or.inr (by simp [nxP, c_29, c_39])), if_pos (by omega)])), rfl⟩) dX4_nextCylinder_44
set_option maxHeartbeats 4000000 in
set_option maxRecDepth 100000 in
theorem c_X4_move (l : Launch) (D : va_G) (cI cZ : ClassId) (wa : Nat) (wv : Nat) (wq : Nat) (dp : Nat → Nat) (qu : Nat → Nat) (la : Nat) (lb : Nat) (lw : Nat) (ba : Nat → Nat) (wh : Nat → Nat) (nl : Nat) (st : Nat) (k : Nat) (hnl : nl ≤ 12) (hba : ∀ k, ba k < 12) (hwh : ∀ k, wh k < 12) (hdp : ∀ k, dp k < 1000) (hqu : ∀ k, qu k < 64) (hst1 : st < 64) (hk : k < 2 ^ 31) : MI l D cI cZ yX4_move wsX4_move ({ frames := 5, cells := 0, slots := 0, locals := 114 }) [.ref wa, .ref la, .int (nI st), .int (nI k)] [(wa, .inr (4, [.ref wv, .ref wq])), (wv, .inl (cI, 64, .inl (mA dp))), (wq, .inl (cI, 64, .inl (iA qu))), (la, .inr (1, [.ref lb, .ref lw, .int (nI nl)])), (lb, .inl (cI, 12, .inl (iA ba))), (lw, .inl (cI, 12, .inl (iA wh)))] (fun r w => r = mvC (alM ba wh nl) dp st k ∧ w = [(wa, .inr (4, [.ref wv, .ref wq])), (wv, .inl (cI, 64, .inl (mA dp))), (wq, .inl (cI, 64, .inl (iA qu))), (la, .inr (1, [.ref lb, .ref lw, .int (nI nl)])), (lb, .inl (cI, 12, .inl (iA ba))), (lw, .inl (cI, 12, .inl (iA wh)))]) := by
  refine MI.of (cc := cX4_move) (maxL := 6) (ret := (some .int)) (own := RX4) (by decide) rfl rfl (Nat.le_of_ble_eq_true rfl) ?_
  intro pQ eQ s mQ args below meth cQ A X hw ls hl
  obtain ⟨⟨hx, hb, hml, hown, hts⟩, hr, hlk, hK, hN, hA⟩ := id X
  have hl : lv_has ls 6 [(0, .ref wa), (1, .ref la), (2, .int (nI st)), (3, .int (nI k))] := hl
  refine lv_iload_n hx hb dX4_move_0 rfl (lv_at hl 3 rfl) ?_
  refine lv_aload_n hx hb dX4_move_1 rfl (lv_at hl 0 rfl) ?_
  refine lv_iload_n hx hb dX4_move_2 rfl (lv_at hl 2 rfl) ?_
  refine x_callV (As := [.int (nI st)]) (rest := [.int (nI k)]) X hw hl.1 (c_X4_length l D cI cZ wa wv wq dp qu st (by first | assumption | omega)) (cwV 1 hts gX4_move_X4_length rfl rfl rfl (by decide +kernel) ⟨Nat.le_of_ble_eq_true rfl, Nat.le_of_ble_eq_true rfl⟩) [0, 1, 2] rfl rfl 0 rfl rfl rfl rfl (Nat.le_of_ble_eq_true rfl) dX4_move_3 (by decide) (fun r w1 H locs hp hw1 => ?_)
  obtain ⟨rfl, rfl⟩ := hp
  have hw : WD D A s.heap [(wa, .inr (4, [.ref wv, .ref wq])), (wv, .inl (cI, 64, .inl (mA dp))), (wq, .inl (cI, 64, .inl (iA qu))), (la, .inr (1, [.ref lb, .ref lw, .int (nI nl)])), (lb, .inl (cI, 12, .inl (iA ba))), (lw, .inl (cI, 12, .inl (iA wh)))] H locs := hw1 rfl
  refine lv_icmp_lt (tgt := 11) hx hb dX4_move_6 (by decide) (fun c_6 => ?_) (fun c_6 => ?_)
  · skip
    rw [q_mlt (by omega) (by have := hdp st; omega)] at c_6
    refine lv_iload_n hx hb dX4_move_11 rfl (lv_at hl 2 rfl) ?_
    refine lv_istore (lv' := [(4, .int (nI st)), (0, .ref wa), (1, .ref la), (2, .int (nI st)), (3, .int (nI k))]) hx hb dX4_move_12 hl (by decide) rfl (fun ls hl => ?_)
    refine lv_iconst (v := nI 0) hx hb dX4_move_14 (by decide) ?_
    refine lv_istore (lv' := [(5, .int (nI 0)), (4, .int (nI st)), (0, .ref wa), (1, .ref la), (2, .int (nI st)), (3, .int (nI k))]) hx hb dX4_move_15 hl (by decide) rfl (fun ls hl => ?_)
    refine wl (α := Nat × Nat) (nL := 6) (fun a => k - a.2) (fun a => (a.2 ≤ k) ∧ (a.1 = wlk (alM ba wh nl) dp st a.2)) (fun a => [(wa, .inr (4, [.ref wv, .ref wq])), (wv, .inl (cI, 64, .inl (mA dp))), (wq, .inl (cI, 64, .inl (iA qu))), (la, .inr (1, [.ref lb, .ref lw, .int (nI nl)])), (lb, .inl (cI, 12, .inl (iA ba))), (lw, .inl (cI, 12, .inl (iA wh)))]) (fun a => [(5, .int (nI a.2)), (4, .int (nI a.1)), (0, .ref wa), (1, .ref la), (2, .int (nI st)), (3, .int (nI k))]) ?_ (st, 0) ⟨(show 0 ≤ k from by omega), (show st = wlk (alM ba wh nl) dp st 0 from rfl)⟩ _ _ _ hw (lv_sub hl [0, 1, 2, 3, 4, 5] rfl)
    rintro ⟨a, i⟩ ⟨hi, ha⟩ H locs ls hw hl ih_17
    have hi : i ≤ k := hi
    have ha : a = wlk (alM ba wh nl) dp st i := ha
    have hw : WD D A s.heap [(wa, .inr (4, [.ref wv, .ref wq])), (wv, .inl (cI, 64, .inl (mA dp))), (wq, .inl (cI, 64, .inl (iA qu))), (la, .inr (1, [.ref lb, .ref lw, .int (nI nl)])), (lb, .inl (cI, 12, .inl (iA ba))), (lw, .inl (cI, 12, .inl (iA wh)))] H locs := hw
    have hl : lv_has ls 6 [(5, .int (nI i)), (4, .int (nI a)), (0, .ref wa), (1, .ref la), (2, .int (nI st)), (3, .int (nI k))] := hl
    have ha64 : a < 64 := by rw [ha]; exact wlk_lt _ _ hst1 i
    have hn6 := nxt_lt (alM ba wh nl) dp a
    refine lv_iload hx hb dX4_move_17 (lv_at hl 0 rfl) ?_
    refine lv_iload_n hx hb dX4_move_19 rfl (lv_at hl 5 rfl) ?_
    refine lv_icmp_ge (tgt := 43) hx hb dX4_move_20 (by decide) (fun c_20 => ?_) (fun c_20 => ?_)
    · skip
      rw [nI_leI (by omega) (by omega)] at c_20
      refine lv_aload_n hx hb dX4_move_43 rfl (lv_at hl 2 rfl) ?_
      refine lv_aload_n hx hb dX4_move_44 rfl (lv_at hl 3 rfl) ?_
      refine lv_iload hx hb dX4_move_45 (lv_at hl 1 rfl) ?_
      refine x_callV (As := [.ref la, .int (nI a)]) (rest := []) X hw hl.1 (c_X4_nextCylinder l D cI cZ wa wv wq dp qu la lb lw ba wh nl a (by first | assumption | omega) (by first | assumption | omega) (by first | assumption | omega) (by first | assumption | omega) (by first | assumption | omega) (by first | assumption | omega)) (cwV 2 hts gX4_move_X4_nextCylinder rfl rfl rfl (by decide +kernel) ⟨Nat.le_of_ble_eq_true rfl, Nat.le_of_ble_eq_true rfl⟩) [0, 1, 2, 3, 4, 5] rfl rfl 0 rfl rfl rfl rfl (Nat.le_of_ble_eq_true rfl) dX4_move_47 (by decide) (fun r w1 H locs hp hw1 => ?_)
      obtain ⟨rfl, rfl⟩ := hp
      have hw : WD D A s.heap [(wa, .inr (4, [.ref wv, .ref wq])), (wv, .inl (cI, 64, .inl (mA dp))), (wq, .inl (cI, 64, .inl (iA qu))), (la, .inr (1, [.ref lb, .ref lw, .int (nI nl)])), (lb, .inl (cI, 12, .inl (iA ba))), (lw, .inl (cI, 12, .inl (iA wh)))] H locs := hw1 rfl
      refine lv_istore (lv' := [(5, .int (nI (nxt (alM ba wh nl) dp a))), (4, .int (nI a)), (0, .ref wa), (1, .ref la), (2, .int (nI st)), (3, .int (nI k))]) hx hb dX4_move_50 hl (by decide) rfl (fun ls hl => ?_)
      refine lv_iload hx hb dX4_move_52 (lv_at hl 1 rfl) ?_
      refine lv_iload hx hb dX4_move_54 (lv_at hl 0 rfl) ?_
      refine x_callN (As := [.int (nI a), .int (nI (nxt (alM ba wh nl) dp a))]) (rest := []) (host := RX5) (n := 2) X hw hl.1 (c_X5_has l D cI cZ a (nxt (alM ba wh nl) dp a) (by first | assumption | omega) (by first | assumption | omega)) gX4_move_X5_has_n45 rfl rfl rfl (List.mem_of_getElem? (i := 17) rfl) (by decide +kernel) (by decide +kernel) (by decide +kernel) ⟨Nat.le_of_ble_eq_true rfl, Nat.le_of_ble_eq_true rfl⟩ [] rfl rfl rfl (Nat.le_of_ble_eq_true rfl) dX4_move_56 (by decide) (fun r w1 H locs hp hw1 => ?_)
      obtain ⟨rfl, rfl⟩ := hp
      have hw : WD D A s.heap [(wa, .inr (4, [.ref wv, .ref wq])), (wv, .inl (cI, 64, .inl (mA dp))), (wq, .inl (cI, 64, .inl (iA qu))), (la, .inr (1, [.ref lb, .ref lw, .int (nI nl)])), (lb, .inl (cI, 12, .inl (iA ba))), (lw, .inl (cI, 12, .inl (iA wh)))] H locs := hw1 rfl
      refine lv_if_eq (tgt := 67) hx hb dX4_move_59 (by decide) (fun c_59 => ?_) (fun c_59 => ?_)
      · skip
        rw [q_b0] at c_59; try simp only [Bool.not_eq_false, Bool.not_eq_true] at c_59
        refine lv_iload hx hb dX4_move_67 (lv_at hl 0 rfl) ?_
        refine lv_bipush (v := nI 10) hx hb dX4_move_69 (by decide) ?_
        refine lv_iadd hx hb dX4_move_71 ?_
        refine cv_i (show nI (nxt (alM ba wh nl) dp a) + nI 10 = nI ((nxt (alM ba wh nl) dp a) + 10) from nI_add (nxt (alM ba wh nl) dp a) 10) ?_
        exact x_iret X hw (⟨(by rw [show k = i by omega]; unfold mvC; rw [if_pos (by omega), ← ha]; simp [c_59]), rfl⟩) dX4_move_72
      · skip
        rw [q_b0] at c_59; try simp only [Bool.not_eq_false, Bool.not_eq_true] at c_59
        refine lv_iload hx hb dX4_move_62 (lv_at hl 0 rfl) ?_
        refine lv_goto (tgt := 72) hx hb dX4_move_64 (by decide) ?_
        exact x_iret X hw (⟨(by rw [show k = i by omega]; unfold mvC; rw [if_pos (by omega), ← ha]; simp [c_59]), rfl⟩) dX4_move_72
    · skip
      rw [nI_leI (by omega) (by omega)] at c_20
      refine lv_iload hx hb dX4_move_23 (lv_at hl 1 rfl) ?_
      refine lv_iconst (v := nI 1) hx hb dX4_move_25 (by decide) ?_
      refine lv_aload_n hx hb dX4_move_26 rfl (lv_at hl 2 rfl) ?_
      refine lv_aload_n hx hb dX4_move_27 rfl (lv_at hl 3 rfl) ?_
      refine lv_iload hx hb dX4_move_28 (lv_at hl 1 rfl) ?_
      refine x_callV (As := [.ref la, .int (nI a)]) (rest := [.int (nI 1), .int (nI a)]) X hw hl.1 (c_X4_nextCylinder l D cI cZ wa wv wq dp qu la lb lw ba wh nl a (by first | assumption | omega) (by first | assumption | omega) (by first | assumption | omega) (by first | assumption | omega) (by first | assumption | omega) (by first | assumption | omega)) (cwV 2 hts gX4_move_X4_nextCylinder rfl rfl rfl (by decide +kernel) ⟨Nat.le_of_ble_eq_true rfl, Nat.le_of_ble_eq_true rfl⟩) [0, 1, 2, 3, 4, 5] rfl rfl 0 rfl rfl rfl rfl (Nat.le_of_ble_eq_true rfl) dX4_move_30 (by decide) (fun r w1 H locs hp hw1 => ?_)
      obtain ⟨rfl, rfl⟩ := hp
      have hw : WD D A s.heap [(wa, .inr (4, [.ref wv, .ref wq])), (wv, .inl (cI, 64, .inl (mA dp))), (wq, .inl (cI, 64, .inl (iA qu))), (la, .inr (1, [.ref lb, .ref lw, .int (nI nl)])), (lb, .inl (cI, 12, .inl (iA ba))), (lw, .inl (cI, 12, .inl (iA wh)))] H locs := hw1 rfl
      refine lv_ishl hx hb dX4_move_33 ?_
      refine cv_i (show (nI 1) <<< (nI (nxt (alM ba wh nl) dp a) &&& 31) = nI (1 <<< (nxt (alM ba wh nl) dp a)) from q_shl 1 (nxt (alM ba wh nl) dp a) (by first | omega | assumption)) ?_
      refine lv_ixor hx hb dX4_move_34 ?_
      refine cv_i (show nI a ^^^ nI (1 <<< (nxt (alM ba wh nl) dp a)) = nI (a ^^^ (1 <<< (nxt (alM ba wh nl) dp a))) from q_xor a (1 <<< (nxt (alM ba wh nl) dp a))) ?_
      refine lv_istore (lv' := [(4, .int (nI (a ^^^ (1 <<< (nxt (alM ba wh nl) dp a))))), (5, .int (nI i)), (0, .ref wa), (1, .ref la), (2, .int (nI st)), (3, .int (nI k))]) hx hb dX4_move_35 hl (by decide) rfl (fun ls hl => ?_)
      refine lv_iinc (v := nI (i + 1)) (lv' := [(5, .int (nI (i + 1))), (4, .int (nI (a ^^^ (1 <<< (nxt (alM ba wh nl) dp a))))), (0, .ref wa), (1, .ref la), (2, .int (nI st)), (3, .int (nI k))]) hx hb dX4_move_37 hl (k := 1) rfl (nI_add i 1) (by decide) rfl (fun ls hl => ?_)
      refine lv_goto (tgt := 17) hx hb dX4_move_40 (by decide) ?_
      exact ih_17 (a ^^^ (1 <<< (nxt (alM ba wh nl) dp a)), i + 1) (by show k - (i + 1) < k - i; omega) ⟨(show (i + 1) ≤ k from by omega), (show (a ^^^ (1 <<< (nxt (alM ba wh nl) dp a))) = wlk (alM ba wh nl) dp st (i + 1) from by rw [ha]; rfl)⟩ _ _ _ hw (lv_sub hl [0, 1, 2, 3, 4, 5] rfl)
  · skip
    rw [q_mlt (by omega) (by have := hdp st; omega)] at c_6
    refine lv_iconst (v := (-1)) hx hb dX4_move_9 (by decide) ?_
    exact x_iret X hw (⟨(by unfold mvC; rw [if_neg (by omega)]), rfl⟩) dX4_move_10
end
section
/-! ===== AirSteps.Groups ===== -/
def wrp (n q : Nat) : Nat := if q < n then q else q - n
/-- how many groups from q on: fuel, q, what has moved, the fewest so far -/
def ndF (en ne : Nat → Nat) (n : Nat) : Nat → Nat → Nat → Nat → Nat
  | 0, _, _, _ => 1
  | f + 1, q, mo, fe => if mo &&& cyl (en (wrp n q)) = 0 then ndF en ne n f (q + 1) (mo ||| cyl (en (wrp n q))) (if q + 1 < n then min fe (ne (q + 1) + 1) else fe) else fe
theorem ndF_s (en ne : Nat → Nat) (n f q mo fe : Nat) : ndF en ne n (f + 1) q mo fe = if mo &&& cyl (en (wrp n q)) = 0 then ndF en ne n f (q + 1) (mo ||| cyl (en (wrp n q))) (if q + 1 < n then min fe (ne (q + 1) + 1) else fe) else fe := rfl
theorem ndF_le (en ne : Nat → Nat) (n : Nat) : ∀ (f q mo fe : Nat), fe ≤ 1000 → ndF en ne n f q mo fe ≤ 1000
  | 0, _, _, _, _ => by show 1 ≤ 1000; omega
  | f + 1, q, mo, fe, h => by
    rw [ndF_s]
    split
    · refine ndF_le en ne n f _ _ _ ?_
      split <;> omega
    · exact h
theorem ndF_ge (en ne : Nat → Nat) (n : Nat) : ∀ (f q mo fe : Nat), 1 ≤ fe → 1 ≤ ndF en ne n f q mo fe
  | 0, _, _, _, _ => by show 1 ≤ 1; omega
  | f + 1, q, mo, fe, h => by
    rw [ndF_s]
    split
    · refine ndF_ge en ne n f _ _ _ ?_
      split <;> omega
    · exact h
theorem ndF_congr {en ne ne' : Nat → Nat} {n : Nat} : ∀ (f q mo fe : Nat), (∀ k, q < k → k < n → ne k = ne' k) → ndF en ne n f q mo fe = ndF en ne' n f q mo fe
  | 0, _, _, _, _ => rfl
  | f + 1, q, mo, fe, h => by
    rw [ndF_s, ndF_s]
    split
    · rw [ndF_congr f (q + 1) _ _ (fun k h1 h2 => h k (by omega) h2)]
      by_cases hq : q + 1 < n
      · rw [if_pos hq, if_pos hq, h (q + 1) (by omega) hq]
      · rw [if_neg hq, if_neg hq]
    · rfl
abbrev ndP (en ne : Nat → Nat) (n f0 p : Nat) : Nat := ndF en ne n (n + f0 - p) p 0 1000
def ndT (en : Nat → Nat) (n f0 : Nat) : Nat → Nat → Nat
  | 0 => fun _ => 0
  | j + 1 => va_up (ndT en n f0 j) (n - 1 - j) (ndP en (ndT en n f0 j) n f0 (n - 1 - j))
def ndI (en : Nat → Nat) (n f0 : Nat) : Nat → Nat := ndT en n f0 n
theorem ndT_fix (en : Nat → Nat) (n f0 : Nat) : ∀ j, j ≤ n → ∀ p, n - j ≤ p → p < n → ndT en n f0 j p = ndP en (ndT en n f0 j) n f0 p
  | 0, _, p, h1, h2 => by omega
  | j + 1, hj, p, h1, h2 => by
    have hcg : ∀ q, n - 1 - j ≤ q → ndP en (ndT en n f0 (j + 1)) n f0 q = ndP en (ndT en n f0 j) n f0 q := by
      intro q hq
      refine ndF_congr _ _ _ _ (fun k hk1 hk2 => ?_)
      show va_up _ _ _ k = _
      unfold va_up
      rw [if_neg (by omega)]
    rw [hcg p (by omega)]
    show va_up _ _ _ p = _
    unfold va_up
    split
    · rename_i h
      rw [← h]
    · exact ndT_fix en n f0 j (by omega) p (by omega) h2
theorem ndI_fix (en : Nat → Nat) (n f0 : Nat) {p : Nat} (h : p < n) : ndI en n f0 p = ndP en (ndI en n f0) n f0 p := ndT_fix en n f0 n (Nat.le_refl n) p (by omega) h
theorem nd_uniq {en a b : Nat → Nat} {n f0 P : Nat} (ha : ∀ p, P ≤ p → p < n → a p = ndP en a n f0 p) (hb : ∀ p, P ≤ p → p < n → b p = ndP en b n f0 p) : ∀ (d p : Nat), P ≤ p → p < n → n - p ≤ d → a p = b p
  | 0, p, h1, h2, h3 => by omega
  | d + 1, p, h1, h2, h3 => by
    rw [ha p h1 h2, hb p h1 h2]
    exact ndF_congr _ _ _ _ (fun k hk1 hk2 => nd_uniq ha hb d k (by omega) hk2 (by omega))
theorem nd_back {en nf : Nat → Nat} {n f0 P : Nat} (hP : 1 ≤ P) (h : ∀ p, P ≤ p → p < n → nf p = ndP en nf n f0 p) : ∀ p, P - 1 ≤ p → p < n → va_up nf (P - 1) (ndP en nf n f0 (P - 1)) p = ndP en (va_up nf (P - 1) (ndP en nf n f0 (P - 1))) n f0 p := by
  intro p h1 h2
  have hcg : ndP en (va_up nf (P - 1) (ndP en nf n f0 (P - 1))) n f0 p = ndP en nf n f0 p := ndF_congr _ _ _ _ (fun k hk1 hk2 => by unfold va_up; rw [if_neg (by omega)])
  rw [hcg]
  unfold va_up
  split
  · rename_i h3
    rw [h3]
  · exact h p (by omega) h2
theorem up_le {nf : Nat → Nat} {B i v : Nat} (h : ∀ k, nf k ≤ B) (hv : v ≤ B) : ∀ k, va_up nf i v k ≤ B := fun k => by
  unfold va_up
  split
  · exact hv
  · exact h k
def bsS (en : Nat → Nat) (n i : Nat) (a : Nat × Nat) : Nat × Nat := if ndI en n i i < a.2 then (i, ndI en n i i) else a
def bsF (en : Nat → Nat) (n i : Nat) : Nat × Nat := fo (bsS en n) (0, 1000) i
theorem bsF_lt (en : Nat → Nat) (n : Nat) : ∀ i, 0 < i → (bsF en n i).1 < i
  | 0, h => absurd h (Nat.lt_irrefl 0)
  | 1, _ => by
    show (bsS en n 0 (0, 1000)).1 < 1
    unfold bsS
    split <;> exact Nat.one_pos
  | i + 2, _ => by
    have h := bsF_lt en n (i + 1) (by omega)
    show (bsS en n (i + 1) (bsF en n (i + 1))).1 < i + 2
    unfold bsS
    split
    · show i + 1 < i + 2
      omega
    · omega
theorem bsF_le (en : Nat → Nat) (n : Nat) : ∀ i, (bsF en n i).2 ≤ 1000
  | 0 => Nat.le_refl 1000
  | i + 1 => by
    have h := bsF_le en n i
    show (bsS en n i (bsF en n i)).2 ≤ 1000
    unfold bsS
    split
    · show ndI en n i i ≤ 1000
      omega
    · exact h
/-- the cuts, their number, the groups that are left -/
abbrev CS : Type := (Nat → Nat) × Nat × Nat
def clS (ne : Nat → Nat) (f0 j : Nat) (a : CS) : CS := if j = 0 ∨ ne (f0 + j) = a.2.2 - 1 then (va_up a.1 a.2.1 (f0 + j), a.2.1 + 1, ne (f0 + j)) else a
def clF (ne : Nat → Nat) (f0 : Nat) (cu : Nat → Nat) (j : Nat) : CS := fo (clS ne f0) (cu, 0, 1000) j
theorem clF_bd {ne : Nat → Nat} {f0 : Nat} {cu : Nat → Nat} (h : ∀ k, cu k < 16) : ∀ j, f0 + j ≤ 16 → (∀ k, (clF ne f0 cu j).1 k < 16) ∧ (clF ne f0 cu j).2.1 ≤ j ∧ (0 < j → 1 ≤ (clF ne f0 cu j).2.1)
  | 0, _ => ⟨h, Nat.le_refl 0, fun q => absurd q (Nat.lt_irrefl 0)⟩
  | j + 1, hj => by
    obtain ⟨h1, h2, h3⟩ := clF_bd (ne := ne) (f0 := f0) h j (by omega)
    show (∀ k, (clS ne f0 j (clF ne f0 cu j)).1 k < 16) ∧ (clS ne f0 j (clF ne f0 cu j)).2.1 ≤ j + 1 ∧ (0 < j + 1 → 1 ≤ (clS ne f0 j (clF ne f0 cu j)).2.1)
    unfold clS
    split
    · refine ⟨fun k => ?_, ?_, fun _ => ?_⟩
      · show va_up _ _ _ k < 16
        unfold va_up
        split
        · omega
        · exact h1 k
      · show _ + 1 ≤ j + 1
        omega
      · show 1 ≤ _ + 1
        omega
    · rename_i hx
      refine ⟨h1, by omega, fun _ => h3 ?_⟩
      rcases Nat.eq_zero_or_pos j with q | q
      · exact absurd (Or.inl q) hx
      · exact q
/-- what find leaves: the cuts of the first best start -/
def FD (en : Nat → Nat) (n : Nat) (cu9 : Nat → Nat) (sz9 : Nat) : Prop := ∃ nf cu0 : Nat → Nat, (∀ p, (bsF en n n).1 ≤ p → p < n → nf p = ndI en n (bsF en n n).1 p) ∧ cu9 = (clF nf (bsF en n n).1 cu0 (n - (bsF en n n).1)).1 ∧ sz9 = (clF nf (bsF en n n).1 cu0 (n - (bsF en n n).1)).2.1
def gcn (cu : Nat → Nat) (k i : Nat) : Nat := fo (fun i a => if cu i ≤ k then a + 1 else a) 0 i
def grp (cu : Nat → Nat) (sz k : Nat) : Nat := if gcn cu k sz = 0 then sz - 1 else gcn cu k sz - 1
theorem gcn_le (cu : Nat → Nat) (k : Nat) : ∀ i : Nat, gcn cu k i ≤ i
  | 0 => Nat.le_refl 0
  | i + 1 => by
    have h := gcn_le cu k i
    show (if cu i ≤ k then gcn cu k i + 1 else gcn cu k i) ≤ i + 1
    split <;> omega
theorem grp_le (cu : Nat → Nat) {sz : Nat} (k : Nat) : grp cu sz k ≤ sz := by
  have h := gcn_le cu k sz
  unfold grp
  split <;> omega
def isF (cu : Nat → Nat) (sz k : Nat) : Bool := decide (fs (fun i => decide (cu i = k)) sz < sz)
set_option maxHeartbeats 4000000 in
set_option maxRecDepth 100000 in
theorem c_X0_size (l : Launch) (D : va_G) (cI cZ : ClassId) (ga : Nat) (gc : Nat) (gn : Nat) (cu : Nat → Nat) (ne : Nat → Nat) (sz : Nat)  : MI l D cI cZ yX0_size wsX0_size ({ frames := 0, cells := 0, slots := 0, locals := 0 }) [.ref ga] [(ga, .inr (0, [.ref gc, .ref gn, .int (nI sz)])), (gc, .inl (cI, 16, .inl (iA cu))), (gn, .inl (cI, 16, .inl (iA ne)))] (fun r w => r = nI sz ∧ w = [(ga, .inr (0, [.ref gc, .ref gn, .int (nI sz)])), (gc, .inl (cI, 16, .inl (iA cu))), (gn, .inl (cI, 16, .inl (iA ne)))]) := by
  refine MI.of (cc := cX0_size) (maxL := 1) (ret := (some .int)) (own := RX0) (by decide) rfl rfl (Nat.le_of_ble_eq_true rfl) ?_
  intro pQ eQ s mQ args below meth cQ A X hw ls hl
  obtain ⟨⟨hx, hb, hml, hown, hts⟩, hr, hlk, hK, hN, hA⟩ := id X
  have hl : lv_has ls 1 [(0, .ref ga)] := hl
  have n0 : ∀ w ∈ wsX00, w ∈ wsX0_size := by decide +kernel
  have f18 : FF args s RX0 wsX0_size 18 0 2 := ⟨_, rfl, by decide, n0, hts (.fieldLink RX0 18 "AirSteps$Groups" "size" "I") (by decide +kernel)⟩
  refine lv_aload_n hx hb dX0_size_0 rfl (lv_at hl 0 rfl) ?_
  refine x_get X hw f18 0 rfl rfl dX0_size_1 ?_
  exact x_iret X hw (⟨(by first | rfl | omega), rfl⟩) dX0_size_4
set_option maxHeartbeats 4000000 in
set_option maxRecDepth 100000 in
theorem c_X0_cutAt (l : Launch) (D : va_G) (cI cZ : ClassId) (ga : Nat) (gc : Nat) (gn : Nat) (cu : Nat → Nat) (ne : Nat → Nat) (sz : Nat) (k : Nat) (hsz : sz ≤ 16) (hk : k < sz) : MI l D cI cZ yX0_cutAt wsX0_cutAt ({ frames := 1, cells := 0, slots := 0, locals := 21 }) [.ref ga, .int (nI k)] [(ga, .inr (0, [.ref gc, .ref gn, .int (nI sz)])), (gc, .inl (cI, 16, .inl (iA cu))), (gn, .inl (cI, 16, .inl (iA ne)))] (fun r w => r = nI (cu k) ∧ w = [(ga, .inr (0, [.ref gc, .ref gn, .int (nI sz)])), (gc, .inl (cI, 16, .inl (iA cu))), (gn, .inl (cI, 16, .inl (iA ne)))]) := by
  refine MI.of (cc := cX0_cutAt) (maxL := 2) (ret := (some .int)) (own := RX0) (by decide) rfl rfl (Nat.le_of_ble_eq_true rfl) ?_
  intro pQ eQ s mQ args below meth cQ A X hw ls hl
  obtain ⟨⟨hx, hb, hml, hown, hts⟩, hr, hlk, hK, hN, hA⟩ := id X
  have hl : lv_has ls 2 [(0, .ref ga), (1, .int (nI k))] := hl
  have n0 : ∀ w ∈ wsX00, w ∈ wsX0_cutAt := by decide +kernel
  have f9 : FF args s RX0 wsX0_cutAt 9 0 0 := ⟨_, rfl, by decide, n0, hts (.fieldLink RX0 9 "AirSteps$Groups" "cuts" "[I") (by decide +kernel)⟩
  have f18 : FF args s RX0 wsX0_cutAt 18 0 2 := ⟨_, rfl, by decide, n0, hts (.fieldLink RX0 18 "AirSteps$Groups" "size" "I") (by decide +kernel)⟩
  refine lv_iload_n hx hb dX0_cutAt_0 rfl (lv_at hl 1 rfl) ?_
  refine lv_aload_n hx hb dX0_cutAt_1 rfl (lv_at hl 0 rfl) ?_
  refine x_get X hw f18 0 rfl rfl dX0_cutAt_2 ?_
  refine x_callN (As := [.int (nI k), .int (nI sz)]) (rest := []) (host := RX5) (n := 2) X hw hl.1 (c_X5_isBelow l D cI cZ (nI k) (nI sz) ) gX0_cutAt_X5_isBelow_n22 rfl rfl rfl (List.mem_of_getElem? (i := 7) rfl) (by decide +kernel) (by decide +kernel) (by decide +kernel) ⟨Nat.le_of_ble_eq_true rfl, Nat.le_of_ble_eq_true rfl⟩ [] rfl rfl rfl (Nat.le_of_ble_eq_true rfl) dX0_cutAt_5 (by decide) (fun r w1 H locs hp hw1 => ?_)
  obtain ⟨rfl, rfl⟩ := hp
  have hw : WD D A s.heap [(ga, .inr (0, [.ref gc, .ref gn, .int (nI sz)])), (gc, .inl (cI, 16, .inl (iA cu))), (gn, .inl (cI, 16, .inl (iA ne)))] H locs := hw1 rfl
  refine lv_if_eq (tgt := 20) hx hb dX0_cutAt_8 (by decide) (fun c_8 => ?_) (fun c_8 => ?_)
  · skip
    rw [q_b0] at c_8; try simp only [Bool.not_eq_false, Bool.not_eq_true] at c_8
    rw [bel_nI (by omega) (by omega)] at c_8; simp at c_8; omega
  · skip
    rw [q_b0] at c_8; try simp only [Bool.not_eq_false, Bool.not_eq_true] at c_8
    refine lv_aload_n hx hb dX0_cutAt_11 rfl (lv_at hl 0 rfl) ?_
    refine x_get X hw f9 0 rfl rfl dX0_cutAt_12 ?_
    refine lv_iload_n hx hb dX0_cutAt_15 rfl (lv_at hl 1 rfl) ?_
    refine x_aldN X hw 1 rfl (by omega) (by omega) dX0_cutAt_16 ?_
    refine lv_goto (tgt := 21) hx hb dX0_cutAt_17 (by decide) ?_
    exact x_iret X hw (⟨(by first | rfl | omega | (simp [c_8]; done) | (simp_all; done)), rfl⟩) dX0_cutAt_21
set_option maxHeartbeats 4000000 in
set_option maxRecDepth 100000 in
theorem c_X0_need (l : Launch) (D : va_G) (cI cZ : ClassId) (ga : Nat) (gc : Nat) (gn : Nat) (cu : Nat → Nat) (ne : Nat → Nat) (sz : Nat) (t : Nat) (te : Nat) (ts : Nat) (en : Nat → Nat) (st : Nat → Nat) (n : Nat) (f0 : Nat) (p0 : Nat) (hn : n ≤ 16) (hen : ∀ k, en k < 4096) (hst : ∀ k, st k < 64) (hne : ∀ k, ne k ≤ 1000) (hf0 : f0 < n) (hp0 : p0 < n) (hfp : f0 ≤ p0) : MI l D cI cZ yX0_need wsX0_need ({ frames := 2, cells := 0, slots := 0, locals := 42 }) [.ref ga, .ref t, .int (nI f0), .int (nI p0)] [(ga, .inr (0, [.ref gc, .ref gn, .int (nI sz)])), (gc, .inl (cI, 16, .inl (iA cu))), (gn, .inl (cI, 16, .inl (iA ne))), (t, .inr (3, [.ref te, .ref ts, .int (nI n)])), (te, .inl (cI, 16, .inl (iA en))), (ts, .inl (cI, 17, .inl (iA st)))] (fun r w => r = nI (ndP en ne n f0 p0) ∧ w = [(ga, .inr (0, [.ref gc, .ref gn, .int (nI sz)])), (gc, .inl (cI, 16, .inl (iA cu))), (gn, .inl (cI, 16, .inl (iA ne))), (t, .inr (3, [.ref te, .ref ts, .int (nI n)])), (te, .inl (cI, 16, .inl (iA en))), (ts, .inl (cI, 17, .inl (iA st)))]) := by
  refine MI.of (cc := cX0_need) (maxL := 9) (ret := (some .int)) (own := RX0) (by decide) rfl rfl (Nat.le_of_ble_eq_true rfl) ?_
  intro pQ eQ s mQ args below meth cQ A X hw ls hl
  obtain ⟨⟨hx, hb, hml, hown, hts⟩, hr, hlk, hK, hN, hA⟩ := id X
  have hl : lv_has ls 9 [(0, .ref ga), (1, .ref t), (2, .int (nI f0)), (3, .int (nI p0))] := hl
  have n0 : ∀ w ∈ wsX00, w ∈ wsX0_need := by decide +kernel
  have f15 : FF args s RX0 wsX0_need 15 0 1 := ⟨_, rfl, by decide, n0, hts (.fieldLink RX0 15 "AirSteps$Groups" "needs" "[I") (by decide +kernel)⟩
  refine lv_aload_n hx hb dX0_need_0 rfl (lv_at hl 1 rfl) ?_
  refine x_callV (As := []) (rest := []) X hw hl.1 (c_X3_size l D cI cZ t te ts en st n ) (cwV 0 hts gX0_need_X3_size rfl rfl rfl (by decide +kernel) ⟨Nat.le_of_ble_eq_true rfl, Nat.le_of_ble_eq_true rfl⟩) [3, 4, 5] rfl rfl 0 rfl rfl rfl rfl (Nat.le_of_ble_eq_true rfl) dX0_need_1 (by decide) (fun r w1 H locs hp hw1 => ?_)
  obtain ⟨rfl, rfl⟩ := hp
  have hw : WD D A s.heap [(ga, .inr (0, [.ref gc, .ref gn, .int (nI sz)])), (gc, .inl (cI, 16, .inl (iA cu))), (gn, .inl (cI, 16, .inl (iA ne))), (t, .inr (3, [.ref te, .ref ts, .int (nI n)])), (te, .inl (cI, 16, .inl (iA en))), (ts, .inl (cI, 17, .inl (iA st)))] H locs := hw1 rfl
  refine lv_istore (lv' := [(4, .int (nI n)), (0, .ref ga), (1, .ref t), (2, .int (nI f0)), (3, .int (nI p0))]) hx hb dX0_need_4 hl (by decide) rfl (fun ls hl => ?_)
  refine lv_sipush (v := nI 1000) hx hb dX0_need_6 (by decide) ?_
  refine lv_istore (lv' := [(5, .int (nI 1000)), (4, .int (nI n)), (0, .ref ga), (1, .ref t), (2, .int (nI f0)), (3, .int (nI p0))]) hx hb dX0_need_9 hl (by decide) rfl (fun ls hl => ?_)
  refine lv_iconst (v := nI 0) hx hb dX0_need_11 (by decide) ?_
  refine lv_istore (lv' := [(6, .int (nI 0)), (5, .int (nI 1000)), (4, .int (nI n)), (0, .ref ga), (1, .ref t), (2, .int (nI f0)), (3, .int (nI p0))]) hx hb dX0_need_12 hl (by decide) rfl (fun ls hl => ?_)
  refine lv_iload_n hx hb dX0_need_14 rfl (lv_at hl 6 rfl) ?_
  refine lv_istore (lv' := [(7, .int (nI p0)), (6, .int (nI 0)), (5, .int (nI 1000)), (4, .int (nI n)), (0, .ref ga), (1, .ref t), (2, .int (nI f0)), (3, .int (nI p0))]) hx hb dX0_need_15 hl (by decide) rfl (fun ls hl => ?_)
  refine wl (α := Nat × Nat × Nat) (nL := 9) (fun a => n + f0 - a.2.2) (fun a => (p0 ≤ a.2.2) ∧ (a.2.2 ≤ n + f0) ∧ (a.2.1 < 64) ∧ (a.1 ≤ 1000) ∧ (ndP en ne n f0 p0 = ndF en ne n (n + f0 - a.2.2) a.2.2 a.2.1 a.1)) (fun a => [(ga, .inr (0, [.ref gc, .ref gn, .int (nI sz)])), (gc, .inl (cI, 16, .inl (iA cu))), (gn, .inl (cI, 16, .inl (iA ne))), (t, .inr (3, [.ref te, .ref ts, .int (nI n)])), (te, .inl (cI, 16, .inl (iA en))), (ts, .inl (cI, 17, .inl (iA st)))]) (fun a => [(7, .int (nI a.2.2)), (6, .int (nI a.2.1)), (5, .int (nI a.1)), (4, .int (nI n)), (0, .ref ga), (1, .ref t), (2, .int (nI f0)), (3, .int (nI p0))]) ?_ (1000, 0, p0) ⟨(show p0 ≤ p0 from by omega), (show p0 ≤ n + f0 from by omega), (show 0 < 64 from by omega), (show 1000 ≤ 1000 from by omega), (show ndP en ne n f0 p0 = ndF en ne n (n + f0 - p0) p0 0 1000 from rfl)⟩ _ _ _ hw (lv_sub hl [0, 1, 2, 3, 4, 5, 6, 7] rfl)
  rintro ⟨fe, mo, q⟩ ⟨hq1, hq2, hmo, hfe, hR⟩ H locs ls hw hl ih_17
  have hq1 : p0 ≤ q := hq1
  have hq2 : q ≤ n + f0 := hq2
  have hmo : mo < 64 := hmo
  have hfe : fe ≤ 1000 := hfe
  have hR : ndP en ne n f0 p0 = ndF en ne n (n + f0 - q) q mo fe := hR
  have hw : WD D A s.heap [(ga, .inr (0, [.ref gc, .ref gn, .int (nI sz)])), (gc, .inl (cI, 16, .inl (iA cu))), (gn, .inl (cI, 16, .inl (iA ne))), (t, .inr (3, [.ref te, .ref ts, .int (nI n)])), (te, .inl (cI, 16, .inl (iA en))), (ts, .inl (cI, 17, .inl (iA st)))] H locs := hw
  have hl : lv_has ls 9 [(7, .int (nI q)), (6, .int (nI mo)), (5, .int (nI fe)), (4, .int (nI n)), (0, .ref ga), (1, .ref t), (2, .int (nI f0)), (3, .int (nI p0))] := hl
  refine lv_iload hx hb dX0_need_17 (lv_at hl 0 rfl) ?_
  refine lv_iload hx hb dX0_need_19 (lv_at hl 3 rfl) ?_
  refine lv_iload_n hx hb dX0_need_21 rfl (lv_at hl 6 rfl) ?_
  refine lv_iadd hx hb dX0_need_22 ?_
  refine cv_i (show nI n + nI f0 = nI (n + f0) from nI_add n f0) ?_
  refine lv_icmp_ge (tgt := 103) hx hb dX0_need_23 (by decide) (fun c_23 => ?_) (fun c_23 => ?_)
  · skip
    rw [nI_leI (by omega) (by omega)] at c_23
    refine lv_iconst (v := nI 1) hx hb dX0_need_103 (by decide) ?_
    exact x_iret X hw (⟨(congrArg nI (by rw [hR, show n + f0 - q = 0 by omega]; rfl)), rfl⟩) dX0_need_104
  · skip
    rw [nI_leI (by omega) (by omega)] at c_23
    refine wj (α := Nat) (nL := 9) 44 (fun a => (a = wrp n q)) (fun a => [(ga, .inr (0, [.ref gc, .ref gn, .int (nI sz)])), (gc, .inl (cI, 16, .inl (iA cu))), (gn, .inl (cI, 16, .inl (iA ne))), (t, .inr (3, [.ref te, .ref ts, .int (nI n)])), (te, .inl (cI, 16, .inl (iA en))), (ts, .inl (cI, 17, .inl (iA st)))]) (fun a => [(7, .int (nI q)), (6, .int (nI mo)), (5, .int (nI fe)), (4, .int (nI n)), (0, .ref ga), (1, .ref t), (2, .int (nI f0)), (3, .int (nI p0))]) (fun a => [.int (nI a), .ref t]) (D := D) (A := A) (H0 := s.heap) (fun J44 => ?_) ?_
    · skip
      refine lv_aload_n hx hb dX0_need_26 rfl (lv_at hl 5 rfl) ?_
      refine lv_iload hx hb dX0_need_27 (lv_at hl 0 rfl) ?_
      refine lv_iload hx hb dX0_need_29 (lv_at hl 3 rfl) ?_
      refine lv_icmp_ge (tgt := 39) hx hb dX0_need_31 (by decide) (fun c_31 => ?_) (fun c_31 => ?_)
      · skip
        rw [nI_leI (by omega) (by omega)] at c_31
        refine lv_iload hx hb dX0_need_39 (lv_at hl 0 rfl) ?_
        refine lv_iload hx hb dX0_need_41 (lv_at hl 3 rfl) ?_
        refine lv_isub hx hb dX0_need_43 ?_
        refine cv_i (show nI q - nI n = nI (q - n) from pk_sub (by first | omega | assumption)) ?_
        exact J44 (q - n) (show (q - n) = wrp n q from by unfold wrp; split <;> omega) _ _ _ hw (lv_sub hl [0, 1, 2, 3, 4, 5, 6, 7] rfl)
      · skip
        rw [nI_leI (by omega) (by omega)] at c_31
        refine lv_iload hx hb dX0_need_34 (lv_at hl 0 rfl) ?_
        refine lv_goto (tgt := 44) hx hb dX0_need_36 (by decide) ?_
        exact J44 q (show q = wrp n q from by unfold wrp; split <;> omega) _ _ _ hw (lv_sub hl [0, 1, 2, 3, 4, 5, 6, 7] rfl)
    · rintro v hv H locs ls hw hl
      have hv : v = wrp n q := hv
      have hw : WD D A s.heap [(ga, .inr (0, [.ref gc, .ref gn, .int (nI sz)])), (gc, .inl (cI, 16, .inl (iA cu))), (gn, .inl (cI, 16, .inl (iA ne))), (t, .inr (3, [.ref te, .ref ts, .int (nI n)])), (te, .inl (cI, 16, .inl (iA en))), (ts, .inl (cI, 17, .inl (iA st)))] H locs := hw
      have hl : lv_has ls 9 [(7, .int (nI q)), (6, .int (nI mo)), (5, .int (nI fe)), (4, .int (nI n)), (0, .ref ga), (1, .ref t), (2, .int (nI f0)), (3, .int (nI p0))] := hl
      have hvn : v < n := by rw [hv]; unfold wrp; split <;> omega
      have hcy := cyl_lt (hen v)
      refine x_callV (As := [.int (nI v)]) (rest := []) X hw hl.1 (c_X3_endsOf l D cI cZ t te ts en st n v (by first | assumption | omega) (by first | assumption | omega) (by first | assumption | omega) (by first | assumption | omega)) (cwV 1 hts gX0_need_X3_endsOf rfl rfl rfl (by decide +kernel) ⟨Nat.le_of_ble_eq_true rfl, Nat.le_of_ble_eq_true rfl⟩) [3, 4, 5] rfl rfl 0 rfl rfl rfl rfl (Nat.le_of_ble_eq_true rfl) dX0_need_44 (by decide) (fun r w1 H locs hp hw1 => ?_)
      obtain ⟨rfl, rfl⟩ := hp
      have hw : WD D A s.heap [(ga, .inr (0, [.ref gc, .ref gn, .int (nI sz)])), (gc, .inl (cI, 16, .inl (iA cu))), (gn, .inl (cI, 16, .inl (iA ne))), (t, .inr (3, [.ref te, .ref ts, .int (nI n)])), (te, .inl (cI, 16, .inl (iA en))), (ts, .inl (cI, 17, .inl (iA st)))] H locs := hw1 rfl
      have he9 := hen v
      refine x_callN (As := [.int (nI (en v))]) (rest := []) (host := RX5) (n := 1) X hw hl.1 (c_X5_cylindersOf l D cI cZ (en v) (by first | assumption | omega)) gX0_need_X5_cylindersOf_n47 rfl rfl rfl (List.mem_of_getElem? (i := 6) rfl) (by decide +kernel) (by decide +kernel) (by decide +kernel) ⟨Nat.le_of_ble_eq_true rfl, Nat.le_of_ble_eq_true rfl⟩ [] rfl rfl rfl (Nat.le_of_ble_eq_true rfl) dX0_need_47 (by decide) (fun r w1 H locs hp hw1 => ?_)
      obtain ⟨rfl, rfl⟩ := hp
      have hw : WD D A s.heap [(ga, .inr (0, [.ref gc, .ref gn, .int (nI sz)])), (gc, .inl (cI, 16, .inl (iA cu))), (gn, .inl (cI, 16, .inl (iA ne))), (t, .inr (3, [.ref te, .ref ts, .int (nI n)])), (te, .inl (cI, 16, .inl (iA en))), (ts, .inl (cI, 17, .inl (iA st)))] H locs := hw1 rfl
      refine lv_istore (lv' := [(8, .int (nI (cyl (en v)))), (7, .int (nI q)), (6, .int (nI mo)), (5, .int (nI fe)), (4, .int (nI n)), (0, .ref ga), (1, .ref t), (2, .int (nI f0)), (3, .int (nI p0))]) hx hb dX0_need_50 hl (by decide) rfl (fun ls hl => ?_)
      refine lv_iload hx hb dX0_need_52 (lv_at hl 2 rfl) ?_
      refine lv_iload hx hb dX0_need_54 (lv_at hl 0 rfl) ?_
      refine lv_iand hx hb dX0_need_56 ?_
      refine cv_i (show nI mo &&& nI (cyl (en v)) = nI (mo &&& (cyl (en v))) from q_and mo (cyl (en v))) ?_
      refine lv_if_eq (tgt := 63) hx hb dX0_need_57 (by decide) (fun c_57 => ?_) (fun c_57 => ?_)
      · skip
        rw [q_eq0 (Nat.lt_of_le_of_lt Nat.and_le_left (by omega))] at c_57
        refine lv_iload hx hb dX0_need_63 (lv_at hl 2 rfl) ?_
        refine lv_iload hx hb dX0_need_65 (lv_at hl 0 rfl) ?_
        refine lv_ior hx hb dX0_need_67 ?_
        refine cv_i (show nI mo ||| nI (cyl (en v)) = nI (mo ||| (cyl (en v))) from q_or mo (cyl (en v))) ?_
        refine lv_istore (lv' := [(6, .int (nI (mo ||| (cyl (en v))))), (8, .int (nI (cyl (en v)))), (7, .int (nI q)), (5, .int (nI fe)), (4, .int (nI n)), (0, .ref ga), (1, .ref t), (2, .int (nI f0)), (3, .int (nI p0))]) hx hb dX0_need_68 hl (by decide) rfl (fun ls hl => ?_)
        refine lv_iload hx hb dX0_need_70 (lv_at hl 2 rfl) ?_
        refine lv_iconst (v := nI 1) hx hb dX0_need_72 (by decide) ?_
        refine lv_iadd hx hb dX0_need_73 ?_
        refine cv_i (show nI q + nI 1 = nI (q + 1) from nI_add q 1) ?_
        refine lv_iload hx hb dX0_need_74 (lv_at hl 4 rfl) ?_
        refine lv_icmp_ge (tgt := 97) hx hb dX0_need_76 (by decide) (fun c_76 => ?_) (fun c_76 => ?_)
        · skip
          rw [nI_leI (by omega) (by omega)] at c_76
          refine lv_iinc (v := nI (q + 1)) (lv' := [(7, .int (nI (q + 1))), (6, .int (nI (mo ||| (cyl (en v))))), (8, .int (nI (cyl (en v)))), (5, .int (nI fe)), (4, .int (nI n)), (0, .ref ga), (1, .ref t), (2, .int (nI f0)), (3, .int (nI p0))]) hx hb dX0_need_97 hl (k := 2) rfl (nI_add q 1) (by decide) rfl (fun ls hl => ?_)
          refine lv_goto (tgt := 17) hx hb dX0_need_100 (by decide) ?_
          exact ih_17 (fe, mo ||| (cyl (en v)), q + 1) (by show n + f0 - (q + 1) < n + f0 - q; omega) ⟨(show p0 ≤ (q + 1) from by omega), (show (q + 1) ≤ n + f0 from by omega), (show (mo ||| (cyl (en v))) < 64 from Nat.or_lt_two_pow (n := 6) hmo hcy), (show fe ≤ 1000 from by omega), (show ndP en ne n f0 p0 = ndF en ne n (n + f0 - (q + 1)) (q + 1) (mo ||| (cyl (en v))) fe from by rw [hR, show n + f0 - q = n + f0 - (q + 1) + 1 by omega, ndF_s, ← hv, if_pos c_57]; first | (rw [if_neg (show ¬ q + 1 < n by omega)]; done) | (rw [if_pos (show q + 1 < n by omega)]; done))⟩ _ _ _ hw (lv_sub hl [0, 1, 3, 4, 5, 6, 7, 8] rfl)
        · skip
          rw [nI_leI (by omega) (by omega)] at c_76
          refine lv_iload hx hb dX0_need_79 (lv_at hl 3 rfl) ?_
          refine lv_aload_n hx hb dX0_need_81 rfl (lv_at hl 5 rfl) ?_
          refine x_get X hw f15 0 rfl rfl dX0_need_82 ?_
          refine lv_iload hx hb dX0_need_85 (lv_at hl 2 rfl) ?_
          refine lv_iconst (v := nI 1) hx hb dX0_need_87 (by decide) ?_
          refine lv_iadd hx hb dX0_need_88 ?_
          refine cv_i (show nI q + nI 1 = nI (q + 1) from nI_add q 1) ?_
          refine x_aldN X hw 2 rfl (by omega) (by omega) dX0_need_89 ?_
          have hb_89 := hne (q + 1)
          refine lv_iconst (v := nI 1) hx hb dX0_need_90 (by decide) ?_
          refine lv_iadd hx hb dX0_need_91 ?_
          refine cv_i (show nI (ne (q + 1)) + nI 1 = nI ((ne (q + 1)) + 1) from nI_add (ne (q + 1)) 1) ?_
          refine va_mmin hx hb (by rw [hml]; exact hl.1.symm) hown (hts (.methodLink RX0 50 Lib.Math.min.name) (by decide +kernel)) (hts (.static Lib.Math.min.name) (by decide +kernel)) (hts (.initialized "java/lang/Math") (by decide +kernel)) (hts (.code Lib.Math.min.name Lib.Math.min.code 2 (some .int)) (by decide +kernel)) (by decide) (by decide) (by decide) (by decide) dX0_need_92 ?_
          refine cv_i (show (if nI ((ne (q + 1)) + 1) < nI fe then nI ((ne (q + 1)) + 1) else nI fe) = nI (min fe ((ne (q + 1)) + 1)) from q_min (by omega) (by omega)) ?_
          refine lv_istore (lv' := [(5, .int (nI (min fe ((ne (q + 1)) + 1)))), (6, .int (nI (mo ||| (cyl (en v))))), (8, .int (nI (cyl (en v)))), (7, .int (nI q)), (4, .int (nI n)), (0, .ref ga), (1, .ref t), (2, .int (nI f0)), (3, .int (nI p0))]) hx hb dX0_need_95 hl (by decide) rfl (fun ls hl => ?_)
          refine lv_iinc (v := nI (q + 1)) (lv' := [(7, .int (nI (q + 1))), (5, .int (nI (min fe ((ne (q + 1)) + 1)))), (6, .int (nI (mo ||| (cyl (en v))))), (8, .int (nI (cyl (en v)))), (4, .int (nI n)), (0, .ref ga), (1, .ref t), (2, .int (nI f0)), (3, .int (nI p0))]) hx hb dX0_need_97 hl (k := 3) rfl (nI_add q 1) (by decide) rfl (fun ls hl => ?_)
          refine lv_goto (tgt := 17) hx hb dX0_need_100 (by decide) ?_
          exact ih_17 (min fe ((ne (q + 1)) + 1), mo ||| (cyl (en v)), q + 1) (by show n + f0 - (q + 1) < n + f0 - q; omega) ⟨(show p0 ≤ (q + 1) from by omega), (show (q + 1) ≤ n + f0 from by omega), (show (mo ||| (cyl (en v))) < 64 from Nat.or_lt_two_pow (n := 6) hmo hcy), (show (min fe ((ne (q + 1)) + 1)) ≤ 1000 from by omega), (show ndP en ne n f0 p0 = ndF en ne n (n + f0 - (q + 1)) (q + 1) (mo ||| (cyl (en v))) (min fe ((ne (q + 1)) + 1)) from by rw [hR, show n + f0 - q = n + f0 - (q + 1) + 1 by omega, ndF_s, ← hv, if_pos c_57]; first | (rw [if_neg (show ¬ q + 1 < n by omega)]; done) | (rw [if_pos (show q + 1 < n by omega)]; done))⟩ _ _ _ hw (lv_sub hl [0, 2, 1, 4, 5, 6, 7, 8] rfl)
      · skip
        rw [q_eq0 (Nat.lt_of_le_of_lt Nat.and_le_left (by omega))] at c_57
        refine lv_iload hx hb dX0_need_60 (lv_at hl 3 rfl) ?_
        exact x_iret X hw (⟨(congrArg nI (by rw [hR, show n + f0 - q = n + f0 - (q + 1) + 1 by omega, ndF_s, ← hv, if_neg c_57])), rfl⟩) dX0_need_62
set_option maxHeartbeats 4000000 in
set_option maxRecDepth 100000 in
theorem c_X0_needsFrom (l : Launch) (D : va_G) (cI cZ : ClassId) (ga : Nat) (gc : Nat) (gn : Nat) (cu : Nat → Nat) (ne : Nat → Nat) (sz : Nat) (t : Nat) (te : Nat) (ts : Nat) (en : Nat → Nat) (st : Nat → Nat) (n : Nat) (f0 : Nat) (hn : n ≤ 16) (hen : ∀ k, en k < 4096) (hst : ∀ k, st k < 64) (hne : ∀ k, ne k ≤ 1000) (hf0 : f0 < n) : MI l D cI cZ yX0_needsFrom wsX0_needsFrom ({ frames := 3, cells := 0, slots := 0, locals := 70 }) [.ref ga, .ref t, .int (nI f0)] [(ga, .inr (0, [.ref gc, .ref gn, .int (nI sz)])), (gc, .inl (cI, 16, .inl (iA cu))), (gn, .inl (cI, 16, .inl (iA ne))), (t, .inr (3, [.ref te, .ref ts, .int (nI n)])), (te, .inl (cI, 16, .inl (iA en))), (ts, .inl (cI, 17, .inl (iA st)))] (fun r w => ∃ nf : Nat → Nat, (∀ p, f0 ≤ p → p < n → nf p = ndI en n f0 p) ∧ (∀ k, nf k ≤ 1000) ∧ r = nI (ndI en n f0 f0) ∧ w = [(ga, .inr (0, [.ref gc, .ref gn, .int (nI sz)])), (gc, .inl (cI, 16, .inl (iA cu))), (gn, .inl (cI, 16, .inl (iA nf))), (t, .inr (3, [.ref te, .ref ts, .int (nI n)])), (te, .inl (cI, 16, .inl (iA en))), (ts, .inl (cI, 17, .inl (iA st)))]) := by
  refine MI.of (cc := cX0_needsFrom) (maxL := 4) (ret := (some .int)) (own := RX0) (by decide) rfl rfl (Nat.le_of_ble_eq_true rfl) ?_
  intro pQ eQ s mQ args below meth cQ A X hw ls hl
  obtain ⟨⟨hx, hb, hml, hown, hts⟩, hr, hlk, hK, hN, hA⟩ := id X
  have hl : lv_has ls 4 [(0, .ref ga), (1, .ref t), (2, .int (nI f0))] := hl
  have n0 : ∀ w ∈ wsX00, w ∈ wsX0_needsFrom := by decide +kernel
  have f15 : FF args s RX0 wsX0_needsFrom 15 0 1 := ⟨_, rfl, by decide, n0, hts (.fieldLink RX0 15 "AirSteps$Groups" "needs" "[I") (by decide +kernel)⟩
  refine lv_aload_n hx hb dX0_needsFrom_0 rfl (lv_at hl 1 rfl) ?_
  refine x_callV (As := []) (rest := []) X hw hl.1 (c_X3_size l D cI cZ t te ts en st n ) (cwV 0 hts gX0_needsFrom_X3_size rfl rfl rfl (by decide +kernel) ⟨Nat.le_of_ble_eq_true rfl, Nat.le_of_ble_eq_true rfl⟩) [3, 4, 5] rfl rfl 0 rfl rfl rfl rfl (Nat.le_of_ble_eq_true rfl) dX0_needsFrom_1 (by decide) (fun r w1 H locs hp hw1 => ?_)
  obtain ⟨rfl, rfl⟩ := hp
  have hw : WD D A s.heap [(ga, .inr (0, [.ref gc, .ref gn, .int (nI sz)])), (gc, .inl (cI, 16, .inl (iA cu))), (gn, .inl (cI, 16, .inl (iA ne))), (t, .inr (3, [.ref te, .ref ts, .int (nI n)])), (te, .inl (cI, 16, .inl (iA en))), (ts, .inl (cI, 17, .inl (iA st)))] H locs := hw1 rfl
  refine lv_iconst (v := nI 1) hx hb dX0_needsFrom_4 (by decide) ?_
  refine lv_isub hx hb dX0_needsFrom_5 ?_
  refine cv_i (show nI n - nI 1 = mI n from rfl) ?_
  refine lv_istore_n (lv' := [(3, .int (mI n)), (0, .ref ga), (1, .ref t), (2, .int (nI f0))]) hx hb dX0_needsFrom_6 rfl hl (by decide) rfl (fun ls hl => ?_)
  refine wl (α := (Nat → Nat) × Nat) (nL := 4) (fun a => a.2) (fun a => (f0 ≤ a.2) ∧ (a.2 ≤ n) ∧ (∀ p, a.2 ≤ p → p < n → a.1 p = ndP en a.1 n f0 p) ∧ (∀ k, a.1 k ≤ 1000)) (fun a => [(ga, .inr (0, [.ref gc, .ref gn, .int (nI sz)])), (gc, .inl (cI, 16, .inl (iA cu))), (gn, .inl (cI, 16, .inl (iA a.1))), (t, .inr (3, [.ref te, .ref ts, .int (nI n)])), (te, .inl (cI, 16, .inl (iA en))), (ts, .inl (cI, 17, .inl (iA st)))]) (fun a => [(3, .int (mI a.2)), (0, .ref ga), (1, .ref t), (2, .int (nI f0))]) ?_ (ne, n) ⟨(show f0 ≤ n from by omega), (show n ≤ n from by omega), (show ∀ p, n ≤ p → p < n → ne p = ndP en ne n f0 p from fun p h1 h2 => by omega), (show ∀ k, ne k ≤ 1000 from hne)⟩ _ _ _ hw (lv_sub hl [0, 1, 2, 3] rfl)
  rintro ⟨nf, P⟩ ⟨hP1, hP2, hnf, hnl⟩ H locs ls hw hl ih_7
  have hP1 : f0 ≤ P := hP1
  have hP2 : P ≤ n := hP2
  have hnf : ∀ p, P ≤ p → p < n → nf p = ndP en nf n f0 p := hnf
  have hnl : ∀ k, nf k ≤ 1000 := hnl
  have hw : WD D A s.heap [(ga, .inr (0, [.ref gc, .ref gn, .int (nI sz)])), (gc, .inl (cI, 16, .inl (iA cu))), (gn, .inl (cI, 16, .inl (iA nf))), (t, .inr (3, [.ref te, .ref ts, .int (nI n)])), (te, .inl (cI, 16, .inl (iA en))), (ts, .inl (cI, 17, .inl (iA st)))] H locs := hw
  have hl : lv_has ls 4 [(3, .int (mI P)), (0, .ref ga), (1, .ref t), (2, .int (nI f0))] := hl
  refine lv_iload_n hx hb dX0_needsFrom_7 rfl (lv_at hl 0 rfl) ?_
  refine lv_iload_n hx hb dX0_needsFrom_8 rfl (lv_at hl 3 rfl) ?_
  refine lv_icmp_lt (tgt := 31) hx hb dX0_needsFrom_9 (by decide) (fun c_9 => ?_) (fun c_9 => ?_)
  · skip
    rw [q_mlt2 (by omega) (by omega)] at c_9
    have hI : ∀ p, f0 ≤ p → p < n → nf p = ndI en n f0 p := fun p h1 h2 => nd_uniq (P := f0) (fun p h3 h4 => hnf p (by omega) h4) (fun p _ h4 => ndI_fix en n f0 h4) n p h1 h2 (by omega)
    refine lv_aload_n hx hb dX0_needsFrom_31 rfl (lv_at hl 2 rfl) ?_
    refine x_callV (As := []) (rest := []) X hw hl.1 (c_X3_size l D cI cZ t te ts en st n ) (cwV 0 hts gX0_needsFrom_X3_size rfl rfl rfl (by decide +kernel) ⟨Nat.le_of_ble_eq_true rfl, Nat.le_of_ble_eq_true rfl⟩) [3, 4, 5] rfl rfl 0 rfl rfl rfl rfl (Nat.le_of_ble_eq_true rfl) dX0_needsFrom_32 (by decide) (fun r w1 H locs hp hw1 => ?_)
    obtain ⟨rfl, rfl⟩ := hp
    have hw : WD D A s.heap [(ga, .inr (0, [.ref gc, .ref gn, .int (nI sz)])), (gc, .inl (cI, 16, .inl (iA cu))), (gn, .inl (cI, 16, .inl (iA nf))), (t, .inr (3, [.ref te, .ref ts, .int (nI n)])), (te, .inl (cI, 16, .inl (iA en))), (ts, .inl (cI, 17, .inl (iA st)))] H locs := hw1 rfl
    refine lv_if_ne (tgt := 44) hx hb dX0_needsFrom_35 (by decide) (fun c_35 => ?_) (fun c_35 => ?_)
    · skip
      rw [q_eq0 (by omega)] at c_35
      refine lv_aload_n hx hb dX0_needsFrom_44 rfl (lv_at hl 1 rfl) ?_
      refine x_get X hw f15 0 rfl rfl dX0_needsFrom_45 ?_
      refine lv_iload_n hx hb dX0_needsFrom_48 rfl (lv_at hl 3 rfl) ?_
      refine x_aldN X hw 2 rfl (by omega) (by omega) dX0_needsFrom_49 ?_
      have hb_49 := hnl f0
      exact x_iret X hw (⟨nf, (hI), (hnl), (congrArg nI (hI f0 (Nat.le_refl f0) hf0)), rfl⟩) dX0_needsFrom_50
    · skip
      rw [q_eq0 (by omega)] at c_35
      omega
  · skip
    rw [q_mlt2 (by omega) (by omega)] at c_9
    refine lv_aload_n hx hb dX0_needsFrom_12 rfl (lv_at hl 1 rfl) ?_
    refine x_get X hw f15 0 rfl rfl dX0_needsFrom_13 ?_
    refine lv_iload_n hx hb dX0_needsFrom_16 rfl (lv_at hl 0 rfl) ?_
    refine cv_i (show mI P = nI (P - 1) from q_m1N (by omega)) ?_
    refine lv_aload_n hx hb dX0_needsFrom_17 rfl (lv_at hl 1 rfl) ?_
    refine lv_aload_n hx hb dX0_needsFrom_18 rfl (lv_at hl 2 rfl) ?_
    refine lv_iload_n hx hb dX0_needsFrom_19 rfl (lv_at hl 3 rfl) ?_
    refine lv_iload_n hx hb dX0_needsFrom_20 rfl (lv_at hl 0 rfl) ?_
    refine cv_i (show mI P = nI (P - 1) from q_m1N (by omega)) ?_
    refine x_callV (As := [.ref t, .int (nI f0), .int (nI (P - 1))]) (rest := [.int (nI (P - 1)), .ref gn]) X hw hl.1 (c_X0_need l D cI cZ ga gc gn cu nf sz t te ts en st n f0 (P - 1) (by first | assumption | omega) (by first | assumption | omega) (by first | assumption | omega) (hnl) (by first | assumption | omega) (by first | assumption | omega) (by first | assumption | omega)) (cwV 3 hts gX0_needsFrom_X0_need rfl rfl rfl (by decide +kernel) ⟨Nat.le_of_ble_eq_true rfl, Nat.le_of_ble_eq_true rfl⟩) [0, 1, 2, 3, 4, 5] rfl rfl 0 rfl rfl rfl rfl (Nat.le_of_ble_eq_true rfl) dX0_needsFrom_21 (by decide) (fun r w1 H locs hp hw1 => ?_)
    obtain ⟨rfl, rfl⟩ := hp
    have hw : WD D A s.heap [(ga, .inr (0, [.ref gc, .ref gn, .int (nI sz)])), (gc, .inl (cI, 16, .inl (iA cu))), (gn, .inl (cI, 16, .inl (iA nf))), (t, .inr (3, [.ref te, .ref ts, .int (nI n)])), (te, .inl (cI, 16, .inl (iA en))), (ts, .inl (cI, 17, .inl (iA st)))] H locs := hw1 rfl
    refine x_astN X hw 2 rfl (by omega) (by omega) dX0_needsFrom_24 (fun H locs hw => ?_)
    have hw : WD D A s.heap [(ga, .inr (0, [.ref gc, .ref gn, .int (nI sz)])), (gc, .inl (cI, 16, .inl (iA cu))), (gn, .inl (cI, 16, .inl (iA (va_up nf (P - 1) (ndP en nf n f0 (P - 1)))))), (t, .inr (3, [.ref te, .ref ts, .int (nI n)])), (te, .inl (cI, 16, .inl (iA en))), (ts, .inl (cI, 17, .inl (iA st)))] H locs := hw
    refine lv_iinc (v := mI (P - 1)) (lv' := [(3, .int (mI (P - 1))), (0, .ref ga), (1, .ref t), (2, .int (nI f0))]) hx hb dX0_needsFrom_25 hl (k := 0) rfl (q_mdec (by first | omega | assumption)) (by decide) rfl (fun ls hl => ?_)
    refine lv_goto (tgt := 7) hx hb dX0_needsFrom_28 (by decide) ?_
    exact ih_7 (va_up nf (P - 1) (ndP en nf n f0 (P - 1)), P - 1) (by show (P - 1) < P; omega) ⟨(show f0 ≤ (P - 1) from by omega), (show (P - 1) ≤ n from by omega), (show ∀ p, (P - 1) ≤ p → p < n → (va_up nf (P - 1) (ndP en nf n f0 (P - 1))) p = ndP en (va_up nf (P - 1) (ndP en nf n f0 (P - 1))) n f0 p from nd_back (by omega) hnf), (show ∀ k, (va_up nf (P - 1) (ndP en nf n f0 (P - 1))) k ≤ 1000 from up_le hnl (ndF_le _ _ _ _ _ _ _ (Nat.le_refl 1000)))⟩ _ _ _ hw (lv_sub hl [0, 1, 2, 3] rfl)
set_option maxHeartbeats 4000000 in
set_option maxRecDepth 100000 in
theorem c_X0_collect (l : Launch) (D : va_G) (cI cZ : ClassId) (ga : Nat) (gc : Nat) (gn : Nat) (cu : Nat → Nat) (ne : Nat → Nat) (sz : Nat) (n : Nat) (f0 : Nat) (hn : n ≤ 16) (hf0 : f0 < n) (hne : ∀ k, ne k ≤ 1000) (hn1 : ∀ p, f0 ≤ p → p < n → 1 ≤ ne p) : MV l D cI cZ yX0_collect wsX0_collect ({ frames := 0, cells := 0, slots := 0, locals := 0 }) [.ref ga, .int (nI n), .int (nI f0)] [(ga, .inr (0, [.ref gc, .ref gn, .int (nI sz)])), (gc, .inl (cI, 16, .inl (iA cu))), (gn, .inl (cI, 16, .inl (iA ne)))] 0 0 (fun w => w = [(ga, .inr (0, [.ref gc, .ref gn, .int (nI ((clF ne f0 cu (n - f0)).2.1))])), (gc, .inl (cI, 16, .inl (iA ((clF ne f0 cu (n - f0)).1)))), (gn, .inl (cI, 16, .inl (iA ne)))]) := by
  refine MV.of (cc := cX0_collect) (maxL := 5) (ret := none) (own := RX0) (by decide) rfl rfl (Nat.le_of_ble_eq_true rfl) ?_
  intro pQ eQ s mQ args below meth cQ A X hnm hw ls hl
  obtain ⟨⟨hx, hb, hml, hown, hts⟩, hr, hlk, hK, hN, hA⟩ := id X
  have hl : lv_has ls 5 [(0, .ref ga), (1, .int (nI n)), (2, .int (nI f0))] := hl
  have n0 : ∀ w ∈ wsX00, w ∈ wsX0_collect := by decide +kernel
  have f9 : FF args s RX0 wsX0_collect 9 0 0 := ⟨_, rfl, by decide, n0, hts (.fieldLink RX0 9 "AirSteps$Groups" "cuts" "[I") (by decide +kernel)⟩
  have f15 : FF args s RX0 wsX0_collect 15 0 1 := ⟨_, rfl, by decide, n0, hts (.fieldLink RX0 15 "AirSteps$Groups" "needs" "[I") (by decide +kernel)⟩
  have f18 : FF args s RX0 wsX0_collect 18 0 2 := ⟨_, rfl, by decide, n0, hts (.fieldLink RX0 18 "AirSteps$Groups" "size" "I") (by decide +kernel)⟩
  have p18 : FP args s RX0 wsX0_collect 18 0 2 := ⟨_, tyX0, rfl, by decide, n0, hts (.fieldLink RX0 18 "AirSteps$Groups" "size" "I") (by decide +kernel), tyX0_ok, nmX0, rfl, by decide +kernel⟩
  refine lv_aload_n hx hb dX0_collect_0 rfl (lv_at hl 0 rfl) ?_
  refine lv_iconst (v := nI 0) hx hb dX0_collect_1 (by decide) ?_
  refine x_put X hw p18 0 rfl (Nat.le_of_ble_eq_true rfl) dX0_collect_2 (fun H locs hw => ?_)
  have hw : WD D A s.heap [(ga, .inr (0, [.ref gc, .ref gn, .int (nI 0)])), (gc, .inl (cI, 16, .inl (iA cu))), (gn, .inl (cI, 16, .inl (iA ne)))] H locs := hw
  refine lv_sipush (v := nI 1000) hx hb dX0_collect_5 (by decide) ?_
  refine lv_istore_n (lv' := [(3, .int (nI 1000)), (0, .ref ga), (1, .int (nI n)), (2, .int (nI f0))]) hx hb dX0_collect_8 rfl hl (by decide) rfl (fun ls hl => ?_)
  refine lv_iload_n hx hb dX0_collect_9 rfl (lv_at hl 3 rfl) ?_
  refine lv_istore (lv' := [(4, .int (nI f0)), (3, .int (nI 1000)), (0, .ref ga), (1, .int (nI n)), (2, .int (nI f0))]) hx hb dX0_collect_10 hl (by decide) rfl (fun ls hl => ?_)
  refine wl (α := (Nat → Nat) × Nat × Nat × Nat) (nL := 5) (fun a => n - a.2.2.2) (fun a => (f0 ≤ a.2.2.2) ∧ (a.2.2.2 ≤ n) ∧ ((a.1, a.2.1, a.2.2.1) = clF ne f0 cu (a.2.2.2 - f0)) ∧ (a.2.1 ≤ a.2.2.2 - f0) ∧ (a.2.2.1 ≤ 1000) ∧ (1 ≤ a.2.2.1)) (fun a => [(ga, .inr (0, [.ref gc, .ref gn, .int (nI a.2.1)])), (gc, .inl (cI, 16, .inl (iA a.1))), (gn, .inl (cI, 16, .inl (iA ne)))]) (fun a => [(4, .int (nI a.2.2.2)), (3, .int (nI a.2.2.1)), (0, .ref ga), (1, .int (nI n)), (2, .int (nI f0))]) ?_ (cu, 0, 1000, f0) ⟨(show f0 ≤ f0 from by omega), (show f0 ≤ n from by omega), (show (cu, 0, 1000) = clF ne f0 cu (f0 - f0) from by rw [Nat.sub_self]; rfl), (show 0 ≤ f0 - f0 from by omega), (show 1000 ≤ 1000 from by omega), (show 1 ≤ 1000 from by omega)⟩ _ _ _ hw (lv_sub hl [0, 1, 2, 3, 4] rfl)
  rintro ⟨c9, z, lf, q⟩ ⟨hq1, hq2, ha, hz, hlf, hlf1⟩ H locs ls hw hl ih_12
  have hq1 : f0 ≤ q := hq1
  have hq2 : q ≤ n := hq2
  have ha : (c9, z, lf) = clF ne f0 cu (q - f0) := ha
  have hz : z ≤ q - f0 := hz
  have hlf : lf ≤ 1000 := hlf
  have hlf1 : 1 ≤ lf := hlf1
  have hw : WD D A s.heap [(ga, .inr (0, [.ref gc, .ref gn, .int (nI z)])), (gc, .inl (cI, 16, .inl (iA c9))), (gn, .inl (cI, 16, .inl (iA ne)))] H locs := hw
  have hl : lv_has ls 5 [(4, .int (nI q)), (3, .int (nI lf)), (0, .ref ga), (1, .int (nI n)), (2, .int (nI f0))] := hl
  have hnq := hne q
  have hn1q := hn1 q hq1
  refine lv_iload hx hb dX0_collect_12 (lv_at hl 0 rfl) ?_
  refine lv_iload_n hx hb dX0_collect_14 rfl (lv_at hl 3 rfl) ?_
  refine lv_icmp_ge (tgt := 72) hx hb dX0_collect_15 (by decide) (fun c_15 => ?_) (fun c_15 => ?_)
  · skip
    rw [nI_leI (by omega) (by omega)] at c_15
    have hfin : clF ne f0 cu (n - f0) = (c9, z, lf) := by rw [ha, show q = n by omega]
    exact x_vret X hw ((by rw [hfin])) dX0_collect_72
  · skip
    rw [nI_leI (by omega) (by omega)] at c_15
    refine lv_iload hx hb dX0_collect_18 (lv_at hl 0 rfl) ?_
    refine lv_iload_n hx hb dX0_collect_20 rfl (lv_at hl 4 rfl) ?_
    refine lv_icmp_eq (tgt := 37) hx hb dX0_collect_21 (by decide) (fun c_21 => ?_) (fun c_21 => ?_)
    · skip
      rw [nI_eq (by omega) (by omega)] at c_21
      refine lv_aload_n hx hb dX0_collect_37 rfl (lv_at hl 2 rfl) ?_
      refine x_get X hw f9 0 rfl rfl dX0_collect_38 ?_
      refine lv_aload_n hx hb dX0_collect_41 rfl (lv_at hl 2 rfl) ?_
      refine x_get X hw f18 0 rfl rfl dX0_collect_42 ?_
      refine lv_iload hx hb dX0_collect_45 (lv_at hl 0 rfl) ?_
      refine x_astN X hw 1 rfl (by omega) (by omega) dX0_collect_47 (fun H locs hw => ?_)
      have hw : WD D A s.heap [(ga, .inr (0, [.ref gc, .ref gn, .int (nI z)])), (gc, .inl (cI, 16, .inl (iA (va_up c9 z q)))), (gn, .inl (cI, 16, .inl (iA ne)))] H locs := hw
      refine lv_aload_n hx hb dX0_collect_48 rfl (lv_at hl 2 rfl) ?_
      refine lv_dup hx hb dX0_collect_49 rfl ?_
      refine x_get X hw f18 0 rfl rfl dX0_collect_50 ?_
      refine lv_iconst (v := nI 1) hx hb dX0_collect_53 (by decide) ?_
      refine lv_iadd hx hb dX0_collect_54 ?_
      refine cv_i (show nI z + nI 1 = nI (z + 1) from nI_add z 1) ?_
      refine x_put X hw p18 0 rfl (Nat.le_of_ble_eq_true rfl) dX0_collect_55 (fun H locs hw => ?_)
      have hw : WD D A s.heap [(ga, .inr (0, [.ref gc, .ref gn, .int (nI (z + 1))])), (gc, .inl (cI, 16, .inl (iA (va_up c9 z q)))), (gn, .inl (cI, 16, .inl (iA ne)))] H locs := hw
      refine lv_aload_n hx hb dX0_collect_58 rfl (lv_at hl 2 rfl) ?_
      refine x_get X hw f15 0 rfl rfl dX0_collect_59 ?_
      refine lv_iload hx hb dX0_collect_62 (lv_at hl 0 rfl) ?_
      refine x_aldN X hw 2 rfl (by omega) (by omega) dX0_collect_64 ?_
      have hb_64 := hne q
      refine lv_istore_n (lv' := [(3, .int (nI (ne q))), (4, .int (nI q)), (0, .ref ga), (1, .int (nI n)), (2, .int (nI f0))]) hx hb dX0_collect_65 rfl hl (by decide) rfl (fun ls hl => ?_)
      refine lv_iinc (v := nI (q + 1)) (lv' := [(4, .int (nI (q + 1))), (3, .int (nI (ne q))), (0, .ref ga), (1, .int (nI n)), (2, .int (nI f0))]) hx hb dX0_collect_66 hl (k := 1) rfl (nI_add q 1) (by decide) rfl (fun ls hl => ?_)
      refine lv_goto (tgt := 12) hx hb dX0_collect_69 (by decide) ?_
      exact ih_12 (va_up c9 z q, z + 1, ne q, q + 1) (by show n - (q + 1) < n - q; omega) ⟨(show f0 ≤ (q + 1) from by omega), (show (q + 1) ≤ n from by omega), (show ((va_up c9 z q), (z + 1), (ne q)) = clF ne f0 cu ((q + 1) - f0) from by rw [show q + 1 - f0 = q - f0 + 1 by omega]; show _ = clS ne f0 (q - f0) (clF ne f0 cu (q - f0)); rw [← ha]; unfold clS; rw [show f0 + (q - f0) = q by omega, if_pos (Or.inl (by omega))]), (show (z + 1) ≤ (q + 1) - f0 from by omega), (show (ne q) ≤ 1000 from by omega), (show 1 ≤ (ne q) from by omega)⟩ _ _ _ hw (lv_sub hl [0, 1, 2, 3, 4] rfl)
    · skip
      rw [nI_eq (by omega) (by omega)] at c_21
      refine lv_aload_n hx hb dX0_collect_24 rfl (lv_at hl 2 rfl) ?_
      refine x_get X hw f15 0 rfl rfl dX0_collect_25 ?_
      refine lv_iload hx hb dX0_collect_28 (lv_at hl 0 rfl) ?_
      refine x_aldN X hw 2 rfl (by omega) (by omega) dX0_collect_30 ?_
      have hb_30 := hne q
      refine lv_iload_n hx hb dX0_collect_31 rfl (lv_at hl 1 rfl) ?_
      refine lv_iconst (v := nI 1) hx hb dX0_collect_32 (by decide) ?_
      refine lv_isub hx hb dX0_collect_33 ?_
      refine cv_i (show nI lf - nI 1 = nI (lf - 1) from pk_sub (by first | omega | assumption)) ?_
      refine lv_icmp_ne (tgt := 66) hx hb dX0_collect_34 (by decide) (fun c_34 => ?_) (fun c_34 => ?_)
      · skip
        rw [nI_eq (by omega) (by omega)] at c_34
        refine lv_iinc (v := nI (q + 1)) (lv' := [(4, .int (nI (q + 1))), (3, .int (nI lf)), (0, .ref ga), (1, .int (nI n)), (2, .int (nI f0))]) hx hb dX0_collect_66 hl (k := 0) rfl (nI_add q 1) (by decide) rfl (fun ls hl => ?_)
        refine lv_goto (tgt := 12) hx hb dX0_collect_69 (by decide) ?_
        exact ih_12 (c9, z, lf, q + 1) (by show n - (q + 1) < n - q; omega) ⟨(show f0 ≤ (q + 1) from by omega), (show (q + 1) ≤ n from by omega), (show (c9, z, lf) = clF ne f0 cu ((q + 1) - f0) from by rw [show q + 1 - f0 = q - f0 + 1 by omega]; show _ = clS ne f0 (q - f0) (clF ne f0 cu (q - f0)); rw [← ha]; unfold clS; rw [show f0 + (q - f0) = q by omega]; simp [c_34]; try omega), (show z ≤ (q + 1) - f0 from by omega), (show lf ≤ 1000 from by omega), (show 1 ≤ lf from by omega)⟩ _ _ _ hw (lv_sub hl [0, 1, 2, 3, 4] rfl)
      · skip
        rw [nI_eq (by omega) (by omega)] at c_34
        refine lv_aload_n hx hb dX0_collect_37 rfl (lv_at hl 2 rfl) ?_
        refine x_get X hw f9 0 rfl rfl dX0_collect_38 ?_
        refine lv_aload_n hx hb dX0_collect_41 rfl (lv_at hl 2 rfl) ?_
        refine x_get X hw f18 0 rfl rfl dX0_collect_42 ?_
        refine lv_iload hx hb dX0_collect_45 (lv_at hl 0 rfl) ?_
        refine x_astN X hw 1 rfl (by omega) (by omega) dX0_collect_47 (fun H locs hw => ?_)
        have hw : WD D A s.heap [(ga, .inr (0, [.ref gc, .ref gn, .int (nI z)])), (gc, .inl (cI, 16, .inl (iA (va_up c9 z q)))), (gn, .inl (cI, 16, .inl (iA ne)))] H locs := hw
        refine lv_aload_n hx hb dX0_collect_48 rfl (lv_at hl 2 rfl) ?_
        refine lv_dup hx hb dX0_collect_49 rfl ?_
        refine x_get X hw f18 0 rfl rfl dX0_collect_50 ?_
        refine lv_iconst (v := nI 1) hx hb dX0_collect_53 (by decide) ?_
        refine lv_iadd hx hb dX0_collect_54 ?_
        refine cv_i (show nI z + nI 1 = nI (z + 1) from nI_add z 1) ?_
        refine x_put X hw p18 0 rfl (Nat.le_of_ble_eq_true rfl) dX0_collect_55 (fun H locs hw => ?_)
        have hw : WD D A s.heap [(ga, .inr (0, [.ref gc, .ref gn, .int (nI (z + 1))])), (gc, .inl (cI, 16, .inl (iA (va_up c9 z q)))), (gn, .inl (cI, 16, .inl (iA ne)))] H locs := hw
        refine lv_aload_n hx hb dX0_collect_58 rfl (lv_at hl 2 rfl) ?_
        refine x_get X hw f15 0 rfl rfl dX0_collect_59 ?_
        refine lv_iload hx hb dX0_collect_62 (lv_at hl 0 rfl) ?_
        refine x_aldN X hw 2 rfl (by omega) (by omega) dX0_collect_64 ?_
        have hb_64 := hne q
        refine lv_istore_n (lv' := [(3, .int (nI (ne q))), (4, .int (nI q)), (0, .ref ga), (1, .int (nI n)), (2, .int (nI f0))]) hx hb dX0_collect_65 rfl hl (by decide) rfl (fun ls hl => ?_)
        refine lv_iinc (v := nI (q + 1)) (lv' := [(4, .int (nI (q + 1))), (3, .int (nI (ne q))), (0, .ref ga), (1, .int (nI n)), (2, .int (nI f0))]) hx hb dX0_collect_66 hl (k := 1) rfl (nI_add q 1) (by decide) rfl (fun ls hl => ?_)
        refine lv_goto (tgt := 12) hx hb dX0_collect_69 (by decide) ?_
        exact ih_12 (va_up c9 z q, z + 1, ne q, q + 1) (by show n - (q + 1) < n - q; omega) ⟨(show f0 ≤ (q + 1) from by omega), (show (q + 1) ≤ n from by omega), (show ((va_up c9 z q), (z + 1), (ne q)) = clF ne f0 cu ((q + 1) - f0) from by rw [show q + 1 - f0 = q - f0 + 1 by omega]; show _ = clS ne f0 (q - f0) (clF ne f0 cu (q - f0)); rw [← ha]; unfold clS; rw [show f0 + (q - f0) = q by omega]; simp [c_34]; try omega), (show (z + 1) ≤ (q + 1) - f0 from by omega), (show (ne q) ≤ 1000 from by omega), (show 1 ≤ (ne q) from by omega)⟩ _ _ _ hw (lv_sub hl [0, 1, 2, 3, 4] rfl)
set_option maxHeartbeats 4000000 in
set_option maxRecDepth 100000 in
theorem c_X0_find (l : Launch) (D : va_G) (cI cZ : ClassId) (ga : Nat) (gc : Nat) (gn : Nat) (cu : Nat → Nat) (ne : Nat → Nat) (sz : Nat) (t : Nat) (te : Nat) (ts : Nat) (en : Nat → Nat) (st : Nat → Nat) (n : Nat) (hn : n ≤ 16) (hen : ∀ k, en k < 4096) (hst : ∀ k, st k < 64) (hne : ∀ k, ne k ≤ 1000) (hcu : ∀ k, cu k < 16) (hn0 : 0 < n) : MV l D cI cZ yX0_find wsX0_find ({ frames := 4, cells := 0, slots := 0, locals := 93 }) [.ref ga, .ref t] [(ga, .inr (0, [.ref gc, .ref gn, .int (nI sz)])), (gc, .inl (cI, 16, .inl (iA cu))), (gn, .inl (cI, 16, .inl (iA ne))), (t, .inr (3, [.ref te, .ref ts, .int (nI n)])), (te, .inl (cI, 16, .inl (iA en))), (ts, .inl (cI, 17, .inl (iA st)))] 0 0 (fun w => ∃ nf : Nat → Nat, ∃ cu9 : Nat → Nat, ∃ sz9 : Nat, (FD en n cu9 sz9) ∧ (∀ k, nf k ≤ 1000) ∧ (∀ k, cu9 k < 16) ∧ (sz9 ≤ 16) ∧ (1 ≤ sz9) ∧ w = [(ga, .inr (0, [.ref gc, .ref gn, .int (nI sz9)])), (gc, .inl (cI, 16, .inl (iA cu9))), (gn, .inl (cI, 16, .inl (iA nf))), (t, .inr (3, [.ref te, .ref ts, .int (nI n)])), (te, .inl (cI, 16, .inl (iA en))), (ts, .inl (cI, 17, .inl (iA st)))]) := by
  refine MV.of (cc := cX0_find) (maxL := 6) (ret := none) (own := RX0) (by decide) rfl rfl (Nat.le_of_ble_eq_true rfl) ?_
  intro pQ eQ s mQ args below meth cQ A X hnm hw ls hl
  obtain ⟨⟨hx, hb, hml, hown, hts⟩, hr, hlk, hK, hN, hA⟩ := id X
  have hl : lv_has ls 6 [(0, .ref ga), (1, .ref t)] := hl
  refine lv_iconst (v := nI 0) hx hb dX0_find_0 (by decide) ?_
  refine lv_istore_n (lv' := [(2, .int (nI 0)), (0, .ref ga), (1, .ref t)]) hx hb dX0_find_1 rfl hl (by decide) rfl (fun ls hl => ?_)
  refine lv_sipush (v := nI 1000) hx hb dX0_find_2 (by decide) ?_
  refine lv_istore_n (lv' := [(3, .int (nI 1000)), (2, .int (nI 0)), (0, .ref ga), (1, .ref t)]) hx hb dX0_find_5 rfl hl (by decide) rfl (fun ls hl => ?_)
  refine lv_iconst (v := nI 0) hx hb dX0_find_6 (by decide) ?_
  refine lv_istore (lv' := [(4, .int (nI 0)), (3, .int (nI 1000)), (2, .int (nI 0)), (0, .ref ga), (1, .ref t)]) hx hb dX0_find_7 hl (by decide) rfl (fun ls hl => ?_)
  refine wl (α := (Nat → Nat) × Nat × Nat × Nat) (nL := 6) (fun a => n - a.2.2.2) (fun a => (a.2.2.2 ≤ n) ∧ ((a.2.1, a.2.2.1) = bsF en n a.2.2.2) ∧ (∀ k, a.1 k ≤ 1000)) (fun a => [(ga, .inr (0, [.ref gc, .ref gn, .int (nI sz)])), (gc, .inl (cI, 16, .inl (iA cu))), (gn, .inl (cI, 16, .inl (iA a.1))), (t, .inr (3, [.ref te, .ref ts, .int (nI n)])), (te, .inl (cI, 16, .inl (iA en))), (ts, .inl (cI, 17, .inl (iA st)))]) (fun a => [(4, .int (nI a.2.2.2)), (3, .int (nI a.2.2.1)), (2, .int (nI a.2.1)), (0, .ref ga), (1, .ref t)]) ?_ (ne, 0, 1000, 0) ⟨(show 0 ≤ n from by omega), (show (0, 1000) = bsF en n 0 from rfl), (show ∀ k, ne k ≤ 1000 from hne)⟩ _ _ _ hw (lv_sub hl [0, 1, 2, 3, 4] rfl)
  rintro ⟨nf, b, fe, i⟩ ⟨hi, ha, hnl⟩ H locs ls hw hl ih_9
  have hi : i ≤ n := hi
  have ha : (b, fe) = bsF en n i := ha
  have hnl : ∀ k, nf k ≤ 1000 := hnl
  have hw : WD D A s.heap [(ga, .inr (0, [.ref gc, .ref gn, .int (nI sz)])), (gc, .inl (cI, 16, .inl (iA cu))), (gn, .inl (cI, 16, .inl (iA nf))), (t, .inr (3, [.ref te, .ref ts, .int (nI n)])), (te, .inl (cI, 16, .inl (iA en))), (ts, .inl (cI, 17, .inl (iA st)))] H locs := hw
  have hl : lv_has ls 6 [(4, .int (nI i)), (3, .int (nI fe)), (2, .int (nI b)), (0, .ref ga), (1, .ref t)] := hl
  have hfe := bsF_le en n i
  rw [← ha] at hfe
  have hfe : fe ≤ 1000 := hfe
  refine lv_iload hx hb dX0_find_9 (lv_at hl 0 rfl) ?_
  refine lv_aload_n hx hb dX0_find_11 rfl (lv_at hl 4 rfl) ?_
  refine x_callV (As := []) (rest := [.int (nI i)]) X hw hl.1 (c_X3_size l D cI cZ t te ts en st n ) (cwV 0 hts gX0_find_X3_size rfl rfl rfl (by decide +kernel) ⟨Nat.le_of_ble_eq_true rfl, Nat.le_of_ble_eq_true rfl⟩) [3, 4, 5] rfl rfl 0 rfl rfl rfl rfl (Nat.le_of_ble_eq_true rfl) dX0_find_12 (by decide) (fun r w1 H locs hp hw1 => ?_)
  obtain ⟨rfl, rfl⟩ := hp
  have hw : WD D A s.heap [(ga, .inr (0, [.ref gc, .ref gn, .int (nI sz)])), (gc, .inl (cI, 16, .inl (iA cu))), (gn, .inl (cI, 16, .inl (iA nf))), (t, .inr (3, [.ref te, .ref ts, .int (nI n)])), (te, .inl (cI, 16, .inl (iA en))), (ts, .inl (cI, 17, .inl (iA st)))] H locs := hw1 rfl
  refine lv_icmp_ge (tgt := 45) hx hb dX0_find_15 (by decide) (fun c_15 => ?_) (fun c_15 => ?_)
  · skip
    rw [nI_leI (by omega) (by omega)] at c_15
    have hin : i = n := by omega
    rw [hin] at ha
    have hb9 : (bsF en n n).1 = b := by rw [← ha]
    have hbn : b < n := by rw [← hb9]; exact bsF_lt en n n hn0
    refine lv_aload_n hx hb dX0_find_45 rfl (lv_at hl 3 rfl) ?_
    refine lv_aload_n hx hb dX0_find_46 rfl (lv_at hl 4 rfl) ?_
    refine lv_iload_n hx hb dX0_find_47 rfl (lv_at hl 2 rfl) ?_
    refine x_callV (As := [.ref t, .int (nI b)]) (rest := []) X hw hl.1 (c_X0_needsFrom l D cI cZ ga gc gn cu nf sz t te ts en st n b (by first | assumption | omega) (by first | assumption | omega) (by first | assumption | omega) (hnl) (hbn)) (cwV 2 hts gX0_find_X0_needsFrom rfl rfl rfl (by decide +kernel) ⟨Nat.le_of_ble_eq_true rfl, Nat.le_of_ble_eq_true rfl⟩) [0, 1, 2, 3, 4, 5] rfl rfl 0 rfl rfl rfl rfl (Nat.le_of_ble_eq_true rfl) dX0_find_48 (by decide) (fun r w1 H locs hp hw1 => ?_)
    obtain ⟨nf3, hI3, hnl3, rfl, rfl⟩ := hp
    have hw : WD D A s.heap [(ga, .inr (0, [.ref gc, .ref gn, .int (nI sz)])), (gc, .inl (cI, 16, .inl (iA cu))), (gn, .inl (cI, 16, .inl (iA nf3))), (t, .inr (3, [.ref te, .ref ts, .int (nI n)])), (te, .inl (cI, 16, .inl (iA en))), (ts, .inl (cI, 17, .inl (iA st)))] H locs := hw1 rfl
    refine lv_pop hx hb dX0_find_51 rfl ?_
    refine lv_aload_n hx hb dX0_find_52 rfl (lv_at hl 3 rfl) ?_
    refine lv_aload_n hx hb dX0_find_53 rfl (lv_at hl 4 rfl) ?_
    refine x_callV (As := []) (rest := [.ref ga]) X hw hl.1 (c_X3_size l D cI cZ t te ts en st n ) (cwV 0 hts gX0_find_X3_size rfl rfl rfl (by decide +kernel) ⟨Nat.le_of_ble_eq_true rfl, Nat.le_of_ble_eq_true rfl⟩) [3, 4, 5] rfl rfl 0 rfl rfl rfl rfl (Nat.le_of_ble_eq_true rfl) dX0_find_54 (by decide) (fun r w1 H locs hp hw1 => ?_)
    obtain ⟨rfl, rfl⟩ := hp
    have hw : WD D A s.heap [(ga, .inr (0, [.ref gc, .ref gn, .int (nI sz)])), (gc, .inl (cI, 16, .inl (iA cu))), (gn, .inl (cI, 16, .inl (iA nf3))), (t, .inr (3, [.ref te, .ref ts, .int (nI n)])), (te, .inl (cI, 16, .inl (iA en))), (ts, .inl (cI, 17, .inl (iA st)))] H locs := hw1 rfl
    refine lv_iload_n hx hb dX0_find_57 rfl (lv_at hl 2 rfl) ?_
    refine x_callVv (As := [.int (nI n), .int (nI b)]) (rest := []) X hw hl.1 (c_X0_collect l D cI cZ ga gc gn cu nf3 sz n b (by first | assumption | omega) (hbn) (hnl3) (fun p h1 h2 => by rw [hI3 p h1 h2, ndI_fix en n b h2]; exact ndF_ge _ _ _ _ _ _ _ (by omega))) (cwV 2 hts gX0_find_X0_collect rfl rfl rfl (by decide +kernel) ⟨Nat.le_of_ble_eq_true rfl, Nat.le_of_ble_eq_true rfl⟩) [0, 1, 2] rfl rfl 0 rfl rfl rfl rfl (Nat.le_of_ble_eq_true rfl) dX0_find_58 (by decide) (fun w1 H locs hp hw1 => ?_)
    obtain rfl := hp
    have hw : WD D A s.heap [(ga, .inr (0, [.ref gc, .ref gn, .int (nI ((clF nf3 b cu (n - b)).2.1))])), (gc, .inl (cI, 16, .inl (iA ((clF nf3 b cu (n - b)).1)))), (gn, .inl (cI, 16, .inl (iA nf3))), (t, .inr (3, [.ref te, .ref ts, .int (nI n)])), (te, .inl (cI, 16, .inl (iA en))), (ts, .inl (cI, 17, .inl (iA st)))] H locs := hw1 rfl
    obtain ⟨hz1, hz2, hz3⟩ := clF_bd (ne := nf3) (f0 := b) hcu (n - b) (by omega)
    exact x_vret X hw (⟨nf3, _, _, (⟨nf3, cu, by rw [hb9]; exact hI3, by rw [hb9], by rw [hb9]⟩), (hnl3), (hz1), (by omega), (hz3 (by omega)), rfl⟩) dX0_find_61
  · skip
    rw [nI_leI (by omega) (by omega)] at c_15
    refine lv_aload_n hx hb dX0_find_18 rfl (lv_at hl 3 rfl) ?_
    refine lv_aload_n hx hb dX0_find_19 rfl (lv_at hl 4 rfl) ?_
    refine lv_iload hx hb dX0_find_20 (lv_at hl 0 rfl) ?_
    refine x_callV (As := [.ref t, .int (nI i)]) (rest := []) X hw hl.1 (c_X0_needsFrom l D cI cZ ga gc gn cu nf sz t te ts en st n i (by first | assumption | omega) (by first | assumption | omega) (by first | assumption | omega) (hnl) (by first | assumption | omega)) (cwV 2 hts gX0_find_X0_needsFrom rfl rfl rfl (by decide +kernel) ⟨Nat.le_of_ble_eq_true rfl, Nat.le_of_ble_eq_true rfl⟩) [0, 1, 2, 3, 4, 5] rfl rfl 0 rfl rfl rfl rfl (Nat.le_of_ble_eq_true rfl) dX0_find_22 (by decide) (fun r w1 H locs hp hw1 => ?_)
    obtain ⟨nf2, hI2, hnl2, rfl, rfl⟩ := hp
    have hw : WD D A s.heap [(ga, .inr (0, [.ref gc, .ref gn, .int (nI sz)])), (gc, .inl (cI, 16, .inl (iA cu))), (gn, .inl (cI, 16, .inl (iA nf2))), (t, .inr (3, [.ref te, .ref ts, .int (nI n)])), (te, .inl (cI, 16, .inl (iA en))), (ts, .inl (cI, 17, .inl (iA st)))] H locs := hw1 rfl
    have hnd : ndI en n i i ≤ 1000 := by rw [← hI2 i (Nat.le_refl i) (by omega)]; exact hnl2 i
    refine lv_istore (lv' := [(5, .int (nI (ndI en n i i))), (4, .int (nI i)), (3, .int (nI fe)), (2, .int (nI b)), (0, .ref ga), (1, .ref t)]) hx hb dX0_find_25 hl (by decide) rfl (fun ls hl => ?_)
    refine lv_iload hx hb dX0_find_27 (lv_at hl 0 rfl) ?_
    refine lv_iload_n hx hb dX0_find_29 rfl (lv_at hl 2 rfl) ?_
    refine lv_icmp_ge (tgt := 39) hx hb dX0_find_30 (by decide) (fun c_30 => ?_) (fun c_30 => ?_)
    · skip
      rw [nI_leI (by omega) (by omega)] at c_30
      refine lv_iinc (v := nI (i + 1)) (lv' := [(4, .int (nI (i + 1))), (5, .int (nI (ndI en n i i))), (3, .int (nI fe)), (2, .int (nI b)), (0, .ref ga), (1, .ref t)]) hx hb dX0_find_39 hl (k := 1) rfl (nI_add i 1) (by decide) rfl (fun ls hl => ?_)
      refine lv_goto (tgt := 9) hx hb dX0_find_42 (by decide) ?_
      exact ih_9 (nf2, b, fe, i + 1) (by show n - (i + 1) < n - i; omega) ⟨(show (i + 1) ≤ n from by omega), (show (b, fe) = bsF en n (i + 1) from by show _ = bsS en n i (bsF en n i); rw [← ha]; unfold bsS; simp; omega), (show ∀ k, nf2 k ≤ 1000 from hnl2)⟩ _ _ _ hw (lv_sub hl [0, 2, 3, 4, 5] rfl)
    · skip
      rw [nI_leI (by omega) (by omega)] at c_30
      refine lv_iload hx hb dX0_find_33 (lv_at hl 0 rfl) ?_
      refine lv_istore_n (lv' := [(3, .int (nI (ndI en n i i))), (5, .int (nI (ndI en n i i))), (4, .int (nI i)), (2, .int (nI b)), (0, .ref ga), (1, .ref t)]) hx hb dX0_find_35 rfl hl (by decide) rfl (fun ls hl => ?_)
      refine lv_iload hx hb dX0_find_36 (lv_at hl 2 rfl) ?_
      refine lv_istore_n (lv' := [(2, .int (nI i)), (3, .int (nI (ndI en n i i))), (5, .int (nI (ndI en n i i))), (4, .int (nI i)), (0, .ref ga), (1, .ref t)]) hx hb dX0_find_38 rfl hl (by decide) rfl (fun ls hl => ?_)
      refine lv_iinc (v := nI (i + 1)) (lv' := [(4, .int (nI (i + 1))), (2, .int (nI i)), (3, .int (nI (ndI en n i i))), (5, .int (nI (ndI en n i i))), (0, .ref ga), (1, .ref t)]) hx hb dX0_find_39 hl (k := 3) rfl (nI_add i 1) (by decide) rfl (fun ls hl => ?_)
      refine lv_goto (tgt := 9) hx hb dX0_find_42 (by decide) ?_
      exact ih_9 (nf2, i, ndI en n i i, i + 1) (by show n - (i + 1) < n - i; omega) ⟨(show (i + 1) ≤ n from by omega), (show (i, (ndI en n i i)) = bsF en n (i + 1) from by show _ = bsS en n i (bsF en n i); rw [← ha]; unfold bsS; simp; omega), (show ∀ k, nf2 k ≤ 1000 from hnl2)⟩ _ _ _ hw (lv_sub hl [0, 2, 1, 4, 5] rfl)
set_option maxHeartbeats 4000000 in
set_option maxRecDepth 100000 in
theorem c_X0_groupOf (l : Launch) (D : va_G) (cI cZ : ClassId) (ga : Nat) (gc : Nat) (gn : Nat) (cu : Nat → Nat) (ne : Nat → Nat) (sz : Nat) (k : Nat) (hsz : sz ≤ 16) (hsz1 : 1 ≤ sz) (hcu : ∀ k, cu k < 16) (hk : k < 16) : MI l D cI cZ yX0_groupOf wsX0_groupOf ({ frames := 0, cells := 0, slots := 0, locals := 0 }) [.ref ga, .int (nI k)] [(ga, .inr (0, [.ref gc, .ref gn, .int (nI sz)])), (gc, .inl (cI, 16, .inl (iA cu))), (gn, .inl (cI, 16, .inl (iA ne)))] (fun r w => r = nI (grp cu sz k) ∧ w = [(ga, .inr (0, [.ref gc, .ref gn, .int (nI sz)])), (gc, .inl (cI, 16, .inl (iA cu))), (gn, .inl (cI, 16, .inl (iA ne)))]) := by
  refine MI.of (cc := cX0_groupOf) (maxL := 4) (ret := (some .int)) (own := RX0) (by decide) rfl rfl (Nat.le_of_ble_eq_true rfl) ?_
  intro pQ eQ s mQ args below meth cQ A X hw ls hl
  obtain ⟨⟨hx, hb, hml, hown, hts⟩, hr, hlk, hK, hN, hA⟩ := id X
  have hl : lv_has ls 4 [(0, .ref ga), (1, .int (nI k))] := hl
  have n0 : ∀ w ∈ wsX00, w ∈ wsX0_groupOf := by decide +kernel
  have f9 : FF args s RX0 wsX0_groupOf 9 0 0 := ⟨_, rfl, by decide, n0, hts (.fieldLink RX0 9 "AirSteps$Groups" "cuts" "[I") (by decide +kernel)⟩
  have f18 : FF args s RX0 wsX0_groupOf 18 0 2 := ⟨_, rfl, by decide, n0, hts (.fieldLink RX0 18 "AirSteps$Groups" "size" "I") (by decide +kernel)⟩
  refine lv_iconst (v := nI 0) hx hb dX0_groupOf_0 (by decide) ?_
  refine lv_istore_n (lv' := [(2, .int (nI 0)), (0, .ref ga), (1, .int (nI k))]) hx hb dX0_groupOf_1 rfl hl (by decide) rfl (fun ls hl => ?_)
  refine lv_iconst (v := nI 0) hx hb dX0_groupOf_2 (by decide) ?_
  refine lv_istore_n (lv' := [(3, .int (nI 0)), (2, .int (nI 0)), (0, .ref ga), (1, .int (nI k))]) hx hb dX0_groupOf_3 rfl hl (by decide) rfl (fun ls hl => ?_)
  refine wl (α := Nat × Nat) (nL := 4) (fun a => sz - a.2) (fun a => (a.2 ≤ sz) ∧ (a.1 = gcn cu k a.2) ∧ (a.1 ≤ a.2)) (fun a => [(ga, .inr (0, [.ref gc, .ref gn, .int (nI sz)])), (gc, .inl (cI, 16, .inl (iA cu))), (gn, .inl (cI, 16, .inl (iA ne)))]) (fun a => [(3, .int (nI a.2)), (2, .int (nI a.1)), (0, .ref ga), (1, .int (nI k))]) ?_ (0, 0) ⟨(show 0 ≤ sz from by omega), (show 0 = gcn cu k 0 from rfl), (show 0 ≤ 0 from by omega)⟩ _ _ _ hw (lv_sub hl [0, 1, 2, 3] rfl)
  rintro ⟨a, i⟩ ⟨hi, ha, hai⟩ H locs ls hw hl ih_4
  have hi : i ≤ sz := hi
  have ha : a = gcn cu k i := ha
  have hai : a ≤ i := hai
  have hw : WD D A s.heap [(ga, .inr (0, [.ref gc, .ref gn, .int (nI sz)])), (gc, .inl (cI, 16, .inl (iA cu))), (gn, .inl (cI, 16, .inl (iA ne)))] H locs := hw
  have hl : lv_has ls 4 [(3, .int (nI i)), (2, .int (nI a)), (0, .ref ga), (1, .int (nI k))] := hl
  refine lv_iload_n hx hb dX0_groupOf_4 rfl (lv_at hl 0 rfl) ?_
  refine lv_aload_n hx hb dX0_groupOf_5 rfl (lv_at hl 2 rfl) ?_
  refine x_get X hw f18 0 rfl rfl dX0_groupOf_6 ?_
  refine lv_icmp_ge (tgt := 31) hx hb dX0_groupOf_9 (by decide) (fun c_9 => ?_) (fun c_9 => ?_)
  · skip
    rw [nI_leI (by omega) (by omega)] at c_9
    refine lv_iload_n hx hb dX0_groupOf_31 rfl (lv_at hl 1 rfl) ?_
    refine lv_if_ne (tgt := 44) hx hb dX0_groupOf_32 (by decide) (fun c_32 => ?_) (fun c_32 => ?_)
    · skip
      rw [q_eq0 (by omega)] at c_32
      refine lv_iload_n hx hb dX0_groupOf_44 rfl (lv_at hl 1 rfl) ?_
      refine lv_iconst (v := nI 1) hx hb dX0_groupOf_45 (by decide) ?_
      refine lv_isub hx hb dX0_groupOf_46 ?_
      refine cv_i (show nI a - nI 1 = nI (a - 1) from pk_sub (by first | omega | assumption)) ?_
      exact x_iret X hw (⟨(congrArg nI (by unfold grp; rw [show gcn cu k sz = a by rw [ha, show i = sz by omega]]; simp [c_32])), rfl⟩) dX0_groupOf_47
    · skip
      rw [q_eq0 (by omega)] at c_32
      refine lv_aload_n hx hb dX0_groupOf_35 rfl (lv_at hl 2 rfl) ?_
      refine x_get X hw f18 0 rfl rfl dX0_groupOf_36 ?_
      refine lv_iconst (v := nI 1) hx hb dX0_groupOf_39 (by decide) ?_
      refine lv_isub hx hb dX0_groupOf_40 ?_
      refine cv_i (show nI sz - nI 1 = nI (sz - 1) from pk_sub (by first | omega | assumption)) ?_
      refine lv_goto (tgt := 47) hx hb dX0_groupOf_41 (by decide) ?_
      exact x_iret X hw (⟨(congrArg nI (by unfold grp; rw [show gcn cu k sz = a by rw [ha, show i = sz by omega]]; simp [c_32])), rfl⟩) dX0_groupOf_47
  · skip
    rw [nI_leI (by omega) (by omega)] at c_9
    refine lv_aload_n hx hb dX0_groupOf_12 rfl (lv_at hl 2 rfl) ?_
    refine x_get X hw f9 0 rfl rfl dX0_groupOf_13 ?_
    refine lv_iload_n hx hb dX0_groupOf_16 rfl (lv_at hl 0 rfl) ?_
    refine x_aldN X hw 1 rfl (by omega) (by omega) dX0_groupOf_17 ?_
    have hb_17 := hcu i
    refine lv_iload_n hx hb dX0_groupOf_18 rfl (lv_at hl 3 rfl) ?_
    refine lv_icmp_gt (tgt := 25) hx hb dX0_groupOf_19 (by decide) (fun c_19 => ?_) (fun c_19 => ?_)
    · skip
      rw [nI_ltI (by omega) (by omega)] at c_19
      refine lv_iinc (v := nI (i + 1)) (lv' := [(3, .int (nI (i + 1))), (2, .int (nI a)), (0, .ref ga), (1, .int (nI k))]) hx hb dX0_groupOf_25 hl (k := 0) rfl (nI_add i 1) (by decide) rfl (fun ls hl => ?_)
      refine lv_goto (tgt := 4) hx hb dX0_groupOf_28 (by decide) ?_
      exact ih_4 (a, i + 1) (by show sz - (i + 1) < sz - i; omega) ⟨(show (i + 1) ≤ sz from by omega), (show a = gcn cu k (i + 1) from by rw [ha]; simp [gcn, fo]; omega), (show a ≤ (i + 1) from by omega)⟩ _ _ _ hw (lv_sub hl [0, 1, 2, 3] rfl)
    · skip
      rw [nI_ltI (by omega) (by omega)] at c_19
      refine lv_iinc (v := nI (a + 1)) (lv' := [(2, .int (nI (a + 1))), (3, .int (nI i)), (0, .ref ga), (1, .int (nI k))]) hx hb dX0_groupOf_22 hl (k := 1) rfl (nI_add a 1) (by decide) rfl (fun ls hl => ?_)
      refine lv_iinc (v := nI (i + 1)) (lv' := [(3, .int (nI (i + 1))), (2, .int (nI (a + 1))), (0, .ref ga), (1, .int (nI k))]) hx hb dX0_groupOf_25 hl (k := 1) rfl (nI_add i 1) (by decide) rfl (fun ls hl => ?_)
      refine lv_goto (tgt := 4) hx hb dX0_groupOf_28 (by decide) ?_
      exact ih_4 (a + 1, i + 1) (by show sz - (i + 1) < sz - i; omega) ⟨(show (i + 1) ≤ sz from by omega), (show (a + 1) = gcn cu k (i + 1) from by rw [ha]; simp [gcn, fo]; omega), (show (a + 1) ≤ (i + 1) from by omega)⟩ _ _ _ hw (lv_sub hl [0, 1, 2, 3] rfl)
set_option maxHeartbeats 4000000 in
set_option maxRecDepth 100000 in
theorem c_X0_isFirst (l : Launch) (D : va_G) (cI cZ : ClassId) (ga : Nat) (gc : Nat) (gn : Nat) (cu : Nat → Nat) (ne : Nat → Nat) (sz : Nat) (k : Nat) (hsz : sz ≤ 16) (hcu : ∀ k, cu k < 16) (hk : k < 16) : MI l D cI cZ yX0_isFirst wsX0_isFirst ({ frames := 0, cells := 0, slots := 0, locals := 0 }) [.ref ga, .int (nI k)] [(ga, .inr (0, [.ref gc, .ref gn, .int (nI sz)])), (gc, .inl (cI, 16, .inl (iA cu))), (gn, .inl (cI, 16, .inl (iA ne)))] (fun r w => r = bI (isF cu sz k) ∧ w = [(ga, .inr (0, [.ref gc, .ref gn, .int (nI sz)])), (gc, .inl (cI, 16, .inl (iA cu))), (gn, .inl (cI, 16, .inl (iA ne)))]) := by
  refine MI.of (cc := cX0_isFirst) (maxL := 3) (ret := (some .boolean)) (own := RX0) (by decide) rfl rfl (Nat.le_of_ble_eq_true rfl) ?_
  intro pQ eQ s mQ args below meth cQ A X hw ls hl
  obtain ⟨⟨hx, hb, hml, hown, hts⟩, hr, hlk, hK, hN, hA⟩ := id X
  have hl : lv_has ls 3 [(0, .ref ga), (1, .int (nI k))] := hl
  have n0 : ∀ w ∈ wsX00, w ∈ wsX0_isFirst := by decide +kernel
  have f9 : FF args s RX0 wsX0_isFirst 9 0 0 := ⟨_, rfl, by decide, n0, hts (.fieldLink RX0 9 "AirSteps$Groups" "cuts" "[I") (by decide +kernel)⟩
  have f18 : FF args s RX0 wsX0_isFirst 18 0 2 := ⟨_, rfl, by decide, n0, hts (.fieldLink RX0 18 "AirSteps$Groups" "size" "I") (by decide +kernel)⟩
  refine lv_iconst (v := nI 0) hx hb dX0_isFirst_0 (by decide) ?_
  refine lv_istore_n (lv' := [(2, .int (nI 0)), (0, .ref ga), (1, .int (nI k))]) hx hb dX0_isFirst_1 rfl hl (by decide) rfl (fun ls hl => ?_)
  refine wl (α := Nat) (nL := 3) (fun a => sz - a) (fun a => (a ≤ sz) ∧ (∀ j, j < a → decide (cu j = k) = false)) (fun a => [(ga, .inr (0, [.ref gc, .ref gn, .int (nI sz)])), (gc, .inl (cI, 16, .inl (iA cu))), (gn, .inl (cI, 16, .inl (iA ne)))]) (fun a => [(2, .int (nI a)), (0, .ref ga), (1, .int (nI k))]) ?_ 0 ⟨(show 0 ≤ sz from by omega), (show ∀ j, j < 0 → decide (cu j = k) = false from fun j hj => absurd hj (Nat.not_lt_zero j))⟩ _ _ _ hw (lv_sub hl [0, 1, 2] rfl)
  rintro i ⟨hi, hq⟩ H locs ls hw hl ih_2
  have hi : i ≤ sz := hi
  have hq : ∀ j, j < i → decide (cu j = k) = false := hq
  have hw : WD D A s.heap [(ga, .inr (0, [.ref gc, .ref gn, .int (nI sz)])), (gc, .inl (cI, 16, .inl (iA cu))), (gn, .inl (cI, 16, .inl (iA ne)))] H locs := hw
  have hl : lv_has ls 3 [(2, .int (nI i)), (0, .ref ga), (1, .int (nI k))] := hl
  refine lv_iload_n hx hb dX0_isFirst_2 rfl (lv_at hl 0 rfl) ?_
  refine lv_aload_n hx hb dX0_isFirst_3 rfl (lv_at hl 1 rfl) ?_
  refine x_get X hw f18 0 rfl rfl dX0_isFirst_4 ?_
  refine lv_icmp_ge (tgt := 28) hx hb dX0_isFirst_7 (by decide) (fun c_7 => ?_) (fun c_7 => ?_)
  · skip
    rw [nI_leI (by omega) (by omega)] at c_7
    refine lv_iconst (v := nI 0) hx hb dX0_isFirst_28 (by decide) ?_
    refine cv_i (show nI 0 = bI false from by decide) ?_
    exact x_zret X hw (⟨(congrArg bI (by unfold isF; rw [fs_eq (P := fun i => decide (cu i = k)) (k := sz) (by omega) (fun j hj => hq j (by omega)) (Or.inl rfl)]; simp)), rfl⟩) dX0_isFirst_29
  · skip
    rw [nI_leI (by omega) (by omega)] at c_7
    refine lv_aload_n hx hb dX0_isFirst_10 rfl (lv_at hl 1 rfl) ?_
    refine x_get X hw f9 0 rfl rfl dX0_isFirst_11 ?_
    refine lv_iload_n hx hb dX0_isFirst_14 rfl (lv_at hl 0 rfl) ?_
    refine x_aldN X hw 1 rfl (by omega) (by omega) dX0_isFirst_15 ?_
    have hb_15 := hcu i
    refine lv_iload_n hx hb dX0_isFirst_16 rfl (lv_at hl 2 rfl) ?_
    refine lv_icmp_ne (tgt := 22) hx hb dX0_isFirst_17 (by decide) (fun c_17 => ?_) (fun c_17 => ?_)
    · skip
      rw [nI_eq (by omega) (by omega)] at c_17
      refine lv_iinc (v := nI (i + 1)) (lv' := [(2, .int (nI (i + 1))), (0, .ref ga), (1, .int (nI k))]) hx hb dX0_isFirst_22 hl (k := 0) rfl (nI_add i 1) (by decide) rfl (fun ls hl => ?_)
      refine lv_goto (tgt := 2) hx hb dX0_isFirst_25 (by decide) ?_
      exact ih_2 (i + 1) (by show sz - (i + 1) < sz - i; omega) ⟨(show (i + 1) ≤ sz from by omega), (show ∀ j, j < (i + 1) → decide (cu j = k) = false from lt_snoc (P := fun i => decide (cu i = k)) hq (by simp [c_17]))⟩ _ _ _ hw (lv_sub hl [0, 1, 2] rfl)
    · skip
      rw [nI_eq (by omega) (by omega)] at c_17
      refine lv_iconst (v := nI 1) hx hb dX0_isFirst_20 (by decide) ?_
      refine cv_i (show nI 1 = bI true from by decide) ?_
      exact x_zret X hw (⟨(congrArg bI (by unfold isF; rw [fs_eq (P := fun i => decide (cu i = k)) (k := i) (by omega) hq (Or.inr (by simp [c_17]))]; simp; omega)), rfl⟩) dX0_isFirst_21
end
section
/-! ===== AirSteps: clashes ===== -/
def trg (en st : Nat → Nat) (n j k : Nat) : Bool := decide (anN (en (pr n j)) (sen (st k)) = 0)
def psh (en st cu : Nat → Nat) (n sz wy j k : Nat) : Bool := if wy = 0 then trg en st n j k else (decide (grp cu sz j = grp cu sz k) && (isF cu sz j || trg en st n j k))
def pus (en st cu : Nat → Nat) (n sz wy k i : Nat) : Nat := fo (fun j a => if psh en st cu n sz wy j k then a ||| en j else a) 0 i
theorem pus_lt {en st cu : Nat → Nat} {n sz wy k : Nat} (h : ∀ j, en j < 4096) : ∀ i : Nat, pus en st cu n sz wy k i < 4096
  | 0 => by show 0 < 4096; omega
  | i + 1 => by
    have h1 := pus_lt (st := st) (cu := cu) (n := n) (sz := sz) (wy := wy) (k := k) h i
    show (if psh en st cu n sz wy i k then pus en st cu n sz wy k i ||| en i else pus en st cu n sz wy k i) < 4096
    split
    · exact Nat.or_lt_two_pow (n := 12) h1 (h i)
    · exact h1
def clsE (e pu : Nat) : Nat := ((e >>> 6) &&& (pu &&& 63)) ||| ((e &&& 63) &&& (pu >>> 6))
theorem clsE_lt (e pu : Nat) (he : e < 4096) : clsE e pu < 64 := by
  refine Nat.or_lt_two_pow (n := 6) (Nat.lt_of_le_of_lt Nat.and_le_left ?_) (Nat.lt_of_le_of_lt Nat.and_le_left (Nat.lt_of_le_of_lt Nat.and_le_right (by decide)))
  rw [Nat.shiftRight_eq_div_pow]
  omega
def cls (en st cu : Nat → Nat) (n sz wy k : Nat) : Nat := clsE (en k) (pus en st cu n sz wy k n)
def clP (en st cu : Nat → Nat) (n sz wy k : Nat) : Bool := decide (¬ cls en st cu n sz wy k = 0)
theorem fwC_pos {en st : Nat → Nat} {n : Nat} (h : fwC en st n = -1) : 0 < n := by
  rcases Nat.eq_zero_or_pos n with q | q
  · subst q
    exact absurd h (by unfold fwC; rw [if_neg (Nat.not_lt_zero _), if_pos (Or.inl rfl)]; decide)
  · exact q
set_option maxHeartbeats 4000000 in
set_option maxRecDepth 100000 in
theorem c_X5_isPushed (l : Launch) (D : va_G) (cI cZ : ClassId) (ax : Nat) (t : Nat) (ga : Nat) (la : Nat) (wa : Nat) (pa : Nat) (te : Nat) (ts : Nat) (en : Nat → Nat) (st : Nat → Nat) (n : Nat) (gc : Nat) (gn : Nat) (cu : Nat → Nat) (ne : Nat → Nat) (sz : Nat) (wy : Nat) (j : Nat) (k : Nat) (hn : n ≤ 16) (hen : ∀ k, en k < 4096) (hst : ∀ k, st k < 64) (hsz : sz ≤ 16) (hcu : ∀ k, cu k < 16) (hgz : wy = 1 → 1 ≤ sz) (hwy : wy < 2) (hj : j < n) (hk : k < n) : MI l D cI cZ yX5_isPushed wsX5_isPushed ({ frames := 3, cells := 0, slots := 0, locals := 63 }) [.ref ax, .int (nI wy), .int (nI j), .int (nI k)] [(ax, .inr (5, [.ref t, .ref ga, .ref la, .ref wa, .ref pa])), (t, .inr (3, [.ref te, .ref ts, .int (nI n)])), (te, .inl (cI, 16, .inl (iA en))), (ts, .inl (cI, 17, .inl (iA st))), (ga, .inr (0, [.ref gc, .ref gn, .int (nI sz)])), (gc, .inl (cI, 16, .inl (iA cu))), (gn, .inl (cI, 16, .inl (iA ne)))] (fun r w => r = bI (psh en st cu n sz wy j k) ∧ w = [(ax, .inr (5, [.ref t, .ref ga, .ref la, .ref wa, .ref pa])), (t, .inr (3, [.ref te, .ref ts, .int (nI n)])), (te, .inl (cI, 16, .inl (iA en))), (ts, .inl (cI, 17, .inl (iA st))), (ga, .inr (0, [.ref gc, .ref gn, .int (nI sz)])), (gc, .inl (cI, 16, .inl (iA cu))), (gn, .inl (cI, 16, .inl (iA ne)))]) := by
  refine MI.of (cc := cX5_isPushed) (maxL := 5) (ret := (some .boolean)) (own := RX5) (by decide) rfl rfl (Nat.le_of_ble_eq_true rfl) ?_
  intro pQ eQ s mQ args below meth cQ A X hw ls hl
  obtain ⟨⟨hx, hb, hml, hown, hts⟩, hr, hlk, hK, hN, hA⟩ := id X
  have hl : lv_has ls 5 [(0, .ref ax), (1, .int (nI wy)), (2, .int (nI j)), (3, .int (nI k))] := hl
  have n5 : ∀ w ∈ wsX50, w ∈ wsX5_isPushed := by decide +kernel
  have f10 : FF args s RX5 wsX5_isPushed 10 5 0 := ⟨_, rfl, by decide, n5, hts (.fieldLink RX5 10 "AirSteps" "text" "LAirSteps$Text;") (by decide +kernel)⟩
  have f19 : FF args s RX5 wsX5_isPushed 19 5 1 := ⟨_, rfl, by decide, n5, hts (.fieldLink RX5 19 "AirSteps" "rows" "LAirSteps$Groups;") (by decide +kernel)⟩
  refine wj (α := Bool) (nL := 5) 30 (fun a => (a = trg en st n j k)) (fun a => [(ax, .inr (5, [.ref t, .ref ga, .ref la, .ref wa, .ref pa])), (t, .inr (3, [.ref te, .ref ts, .int (nI n)])), (te, .inl (cI, 16, .inl (iA en))), (ts, .inl (cI, 17, .inl (iA st))), (ga, .inr (0, [.ref gc, .ref gn, .int (nI sz)])), (gc, .inl (cI, 16, .inl (iA cu))), (gn, .inl (cI, 16, .inl (iA ne)))]) (fun a => [(0, .ref ax), (1, .int (nI wy)), (2, .int (nI j)), (3, .int (nI k))]) (fun a => [.int (bI a)]) (D := D) (A := A) (H0 := s.heap) (fun J30 => ?_) ?_
  · skip
    refine lv_aload_n hx hb dX5_isPushed_0 rfl (lv_at hl 0 rfl) ?_
    refine x_get X hw f10 0 rfl rfl dX5_isPushed_1 ?_
    refine lv_iload_n hx hb dX5_isPushed_4 rfl (lv_at hl 2 rfl) ?_
    refine x_callV (As := [.int (nI j)]) (rest := []) X hw hl.1 (c_X3_trigger l D cI cZ t te ts en st n j (by first | assumption | omega) (by first | assumption | omega) (by first | assumption | omega) (by first | assumption | omega)) (cwV 1 hts gX5_isPushed_X3_trigger rfl rfl rfl (by decide +kernel) ⟨Nat.le_of_ble_eq_true rfl, Nat.le_of_ble_eq_true rfl⟩) [1, 2, 3] rfl rfl 0 rfl rfl rfl rfl (Nat.le_of_ble_eq_true rfl) dX5_isPushed_5 (by decide) (fun r w1 H locs hp hw1 => ?_)
    obtain ⟨rfl, rfl⟩ := hp
    have hw : WD D A s.heap [(ax, .inr (5, [.ref t, .ref ga, .ref la, .ref wa, .ref pa])), (t, .inr (3, [.ref te, .ref ts, .int (nI n)])), (te, .inl (cI, 16, .inl (iA en))), (ts, .inl (cI, 17, .inl (iA st))), (ga, .inr (0, [.ref gc, .ref gn, .int (nI sz)])), (gc, .inl (cI, 16, .inl (iA cu))), (gn, .inl (cI, 16, .inl (iA ne)))] H locs := hw1 rfl
    refine lv_aload_n hx hb dX5_isPushed_8 rfl (lv_at hl 0 rfl) ?_
    refine x_get X hw f10 0 rfl rfl dX5_isPushed_9 ?_
    refine lv_iload_n hx hb dX5_isPushed_12 rfl (lv_at hl 3 rfl) ?_
    refine x_callV (As := [.int (nI k)]) (rest := [.int (nI (en (pr n j)))]) X hw hl.1 (c_X3_stateAt l D cI cZ t te ts en st n k (by first | assumption | omega) (by first | assumption | omega) (by first | assumption | omega) (by first | assumption | omega)) (cwV 1 hts gX5_isPushed_X3_stateAt rfl rfl rfl (by decide +kernel) ⟨Nat.le_of_ble_eq_true rfl, Nat.le_of_ble_eq_true rfl⟩) [1, 2, 3] rfl rfl 0 rfl rfl rfl rfl (Nat.le_of_ble_eq_true rfl) dX5_isPushed_13 (by decide) (fun r w1 H locs hp hw1 => ?_)
    obtain ⟨rfl, rfl⟩ := hp
    have hw : WD D A s.heap [(ax, .inr (5, [.ref t, .ref ga, .ref la, .ref wa, .ref pa])), (t, .inr (3, [.ref te, .ref ts, .int (nI n)])), (te, .inl (cI, 16, .inl (iA en))), (ts, .inl (cI, 17, .inl (iA st))), (ga, .inr (0, [.ref gc, .ref gn, .int (nI sz)])), (gc, .inl (cI, 16, .inl (iA cu))), (gn, .inl (cI, 16, .inl (iA ne)))] H locs := hw1 rfl
    refine x_callS (As := [.int (nI (st k))]) (rest := [.int (nI (en (pr n j)))]) X hw hl.1 (c_X5_sensorsOn l D cI cZ (st k) ) (va_cwS 1 hts gX5_isPushed_X5_sensorsOn rfl rfl rfl (by decide +kernel) ⟨Nat.le_of_ble_eq_true rfl, Nat.le_of_ble_eq_true rfl⟩) [] rfl rfl rfl (Nat.le_of_ble_eq_true rfl) dX5_isPushed_16 (by decide) (fun r w1 H locs hp hw1 => ?_)
    obtain ⟨rfl, rfl⟩ := hp
    have hw : WD D A s.heap [(ax, .inr (5, [.ref t, .ref ga, .ref la, .ref wa, .ref pa])), (t, .inr (3, [.ref te, .ref ts, .int (nI n)])), (te, .inl (cI, 16, .inl (iA en))), (ts, .inl (cI, 17, .inl (iA st))), (ga, .inr (0, [.ref gc, .ref gn, .int (nI sz)])), (gc, .inl (cI, 16, .inl (iA cu))), (gn, .inl (cI, 16, .inl (iA ne)))] H locs := hw1 rfl
    refine lv_iconst (v := (-1)) hx hb dX5_isPushed_19 (by decide) ?_
    refine lv_ixor hx hb dX5_isPushed_20 ?_
    refine lv_iand hx hb dX5_isPushed_21 ?_
    refine cv_i (show nI (en (pr n j)) &&& (nI (sen (st k)) ^^^ (-1 : Int32)) = nI (anN (en (pr n j)) (sen (st k))) from q_anR (en (pr n j)) (sen (st k))) ?_
    refine lv_if_ne (tgt := 29) hx hb dX5_isPushed_22 (by decide) (fun c_22 => ?_) (fun c_22 => ?_)
    · skip
      rw [q_eq0 (Nat.lt_of_lt_of_le (anN_lt (k := 12) (hen _)) (by decide))] at c_22
      refine lv_iconst (v := nI 0) hx hb dX5_isPushed_29 (by decide) ?_
      refine cv_i (show nI 0 = bI false from by decide) ?_
      exact J30 false (show false = trg en st n j k from by simp [trg, c_22]) _ _ _ hw (lv_sub hl [0, 1, 2, 3] rfl)
    · skip
      rw [q_eq0 (Nat.lt_of_lt_of_le (anN_lt (k := 12) (hen _)) (by decide))] at c_22
      refine lv_iconst (v := nI 1) hx hb dX5_isPushed_25 (by decide) ?_
      refine lv_goto (tgt := 30) hx hb dX5_isPushed_26 (by decide) ?_
      refine cv_i (show nI 1 = bI true from by decide) ?_
      exact J30 true (show true = trg en st n j k from by simp [trg, c_22]) _ _ _ hw (lv_sub hl [0, 1, 2, 3] rfl)
  · rintro b hb9 H locs ls hw hl
    have hb9 : b = trg en st n j k := hb9
    have hw : WD D A s.heap [(ax, .inr (5, [.ref t, .ref ga, .ref la, .ref wa, .ref pa])), (t, .inr (3, [.ref te, .ref ts, .int (nI n)])), (te, .inl (cI, 16, .inl (iA en))), (ts, .inl (cI, 17, .inl (iA st))), (ga, .inr (0, [.ref gc, .ref gn, .int (nI sz)])), (gc, .inl (cI, 16, .inl (iA cu))), (gn, .inl (cI, 16, .inl (iA ne)))] H locs := hw
    have hl : lv_has ls 5 [(0, .ref ax), (1, .int (nI wy)), (2, .int (nI j)), (3, .int (nI k))] := hl
    refine lv_istore (lv' := [(4, .int (bI b)), (0, .ref ax), (1, .int (nI wy)), (2, .int (nI j)), (3, .int (nI k))]) hx hb dX5_isPushed_30 hl (by decide) rfl (fun ls hl => ?_)
    refine lv_iload_n hx hb dX5_isPushed_32 rfl (lv_at hl 2 rfl) ?_
    refine lv_if_ne (tgt := 39) hx hb dX5_isPushed_33 (by decide) (fun c_33 => ?_) (fun c_33 => ?_)
    · skip
      rw [q_eq0 (by omega)] at c_33
      refine lv_aload_n hx hb dX5_isPushed_39 rfl (lv_at hl 1 rfl) ?_
      refine x_get X hw f19 0 rfl rfl dX5_isPushed_40 ?_
      refine lv_iload_n hx hb dX5_isPushed_43 rfl (lv_at hl 3 rfl) ?_
      refine x_callV (As := [.int (nI j)]) (rest := []) X hw hl.1 (c_X0_groupOf l D cI cZ ga gc gn cu ne sz j (by first | assumption | omega) (hgz (by omega)) (by first | assumption | omega) (by first | assumption | omega)) (cwV 1 hts gX5_isPushed_X0_groupOf rfl rfl rfl (by decide +kernel) ⟨Nat.le_of_ble_eq_true rfl, Nat.le_of_ble_eq_true rfl⟩) [4, 5, 6] rfl rfl 0 rfl rfl rfl rfl (Nat.le_of_ble_eq_true rfl) dX5_isPushed_44 (by decide) (fun r w1 H locs hp hw1 => ?_)
      obtain ⟨rfl, rfl⟩ := hp
      have hw : WD D A s.heap [(ax, .inr (5, [.ref t, .ref ga, .ref la, .ref wa, .ref pa])), (t, .inr (3, [.ref te, .ref ts, .int (nI n)])), (te, .inl (cI, 16, .inl (iA en))), (ts, .inl (cI, 17, .inl (iA st))), (ga, .inr (0, [.ref gc, .ref gn, .int (nI sz)])), (gc, .inl (cI, 16, .inl (iA cu))), (gn, .inl (cI, 16, .inl (iA ne)))] H locs := hw1 rfl
      have hg1 := grp_le cu (sz := sz) j
      refine lv_aload_n hx hb dX5_isPushed_47 rfl (lv_at hl 1 rfl) ?_
      refine x_get X hw f19 0 rfl rfl dX5_isPushed_48 ?_
      refine lv_iload_n hx hb dX5_isPushed_51 rfl (lv_at hl 4 rfl) ?_
      refine x_callV (As := [.int (nI k)]) (rest := [.int (nI (grp cu sz j))]) X hw hl.1 (c_X0_groupOf l D cI cZ ga gc gn cu ne sz k (by first | assumption | omega) (hgz (by omega)) (by first | assumption | omega) (by first | assumption | omega)) (cwV 1 hts gX5_isPushed_X0_groupOf rfl rfl rfl (by decide +kernel) ⟨Nat.le_of_ble_eq_true rfl, Nat.le_of_ble_eq_true rfl⟩) [4, 5, 6] rfl rfl 0 rfl rfl rfl rfl (Nat.le_of_ble_eq_true rfl) dX5_isPushed_52 (by decide) (fun r w1 H locs hp hw1 => ?_)
      obtain ⟨rfl, rfl⟩ := hp
      have hw : WD D A s.heap [(ax, .inr (5, [.ref t, .ref ga, .ref la, .ref wa, .ref pa])), (t, .inr (3, [.ref te, .ref ts, .int (nI n)])), (te, .inl (cI, 16, .inl (iA en))), (ts, .inl (cI, 17, .inl (iA st))), (ga, .inr (0, [.ref gc, .ref gn, .int (nI sz)])), (gc, .inl (cI, 16, .inl (iA cu))), (gn, .inl (cI, 16, .inl (iA ne)))] H locs := hw1 rfl
      have hg2 := grp_le cu (sz := sz) k
      refine lv_icmp_ne (tgt := 78) hx hb dX5_isPushed_55 (by decide) (fun c_55 => ?_) (fun c_55 => ?_)
      · skip
        rw [nI_eq (by omega) (by omega)] at c_55
        refine lv_iconst (v := nI 0) hx hb dX5_isPushed_78 (by decide) ?_
        refine cv_i (show nI 0 = bI false from by decide) ?_
        exact x_zret X hw (⟨(congrArg bI (by unfold psh; rw [if_neg (by omega), ← hb9]; simp [c_33, c_55])), rfl⟩) dX5_isPushed_79
      · skip
        rw [nI_eq (by omega) (by omega)] at c_55
        refine lv_aload_n hx hb dX5_isPushed_58 rfl (lv_at hl 1 rfl) ?_
        refine x_get X hw f19 0 rfl rfl dX5_isPushed_59 ?_
        refine lv_iload_n hx hb dX5_isPushed_62 rfl (lv_at hl 3 rfl) ?_
        refine x_callV (As := [.int (nI j)]) (rest := []) X hw hl.1 (c_X0_isFirst l D cI cZ ga gc gn cu ne sz j (by first | assumption | omega) (by first | assumption | omega) (by first | assumption | omega)) (cwV 1 hts gX5_isPushed_X0_isFirst rfl rfl rfl (by decide +kernel) ⟨Nat.le_of_ble_eq_true rfl, Nat.le_of_ble_eq_true rfl⟩) [4, 5, 6] rfl rfl 0 rfl rfl rfl rfl (Nat.le_of_ble_eq_true rfl) dX5_isPushed_63 (by decide) (fun r w1 H locs hp hw1 => ?_)
        obtain ⟨rfl, rfl⟩ := hp
        have hw : WD D A s.heap [(ax, .inr (5, [.ref t, .ref ga, .ref la, .ref wa, .ref pa])), (t, .inr (3, [.ref te, .ref ts, .int (nI n)])), (te, .inl (cI, 16, .inl (iA en))), (ts, .inl (cI, 17, .inl (iA st))), (ga, .inr (0, [.ref gc, .ref gn, .int (nI sz)])), (gc, .inl (cI, 16, .inl (iA cu))), (gn, .inl (cI, 16, .inl (iA ne)))] H locs := hw1 rfl
        refine lv_if_ne (tgt := 74) hx hb dX5_isPushed_66 (by decide) (fun c_66 => ?_) (fun c_66 => ?_)
        · skip
          rw [q_b0] at c_66; try simp only [Bool.not_eq_false, Bool.not_eq_true] at c_66
          refine lv_iconst (v := nI 1) hx hb dX5_isPushed_74 (by decide) ?_
          refine lv_goto (tgt := 79) hx hb dX5_isPushed_75 (by decide) ?_
          refine cv_i (show nI 1 = bI true from by decide) ?_
          exact x_zret X hw (⟨(congrArg bI (by unfold psh; rw [if_neg (by omega), ← hb9]; simp [c_33, c_55, c_66])), rfl⟩) dX5_isPushed_79
        · skip
          rw [q_b0] at c_66; try simp only [Bool.not_eq_false, Bool.not_eq_true] at c_66
          refine lv_iload hx hb dX5_isPushed_69 (lv_at hl 0 rfl) ?_
          refine lv_if_eq (tgt := 78) hx hb dX5_isPushed_71 (by decide) (fun c_71 => ?_) (fun c_71 => ?_)
          · skip
            rw [q_b0] at c_71; try simp only [Bool.not_eq_false, Bool.not_eq_true] at c_71
            refine lv_iconst (v := nI 0) hx hb dX5_isPushed_78 (by decide) ?_
            refine cv_i (show nI 0 = bI false from by decide) ?_
            exact x_zret X hw (⟨(congrArg bI (by unfold psh; rw [if_neg (by omega), ← hb9]; simp [c_33, c_55, c_66, c_71])), rfl⟩) dX5_isPushed_79
          · skip
            rw [q_b0] at c_71; try simp only [Bool.not_eq_false, Bool.not_eq_true] at c_71
            refine lv_iconst (v := nI 1) hx hb dX5_isPushed_74 (by decide) ?_
            refine lv_goto (tgt := 79) hx hb dX5_isPushed_75 (by decide) ?_
            refine cv_i (show nI 1 = bI true from by decide) ?_
            exact x_zret X hw (⟨(congrArg bI (by unfold psh; rw [if_neg (by omega), ← hb9]; simp [c_33, c_55, c_66, c_71])), rfl⟩) dX5_isPushed_79
    · skip
      rw [q_eq0 (by omega)] at c_33
      refine lv_iload hx hb dX5_isPushed_36 (lv_at hl 0 rfl) ?_
      exact x_zret X hw (⟨(by unfold psh; rw [if_pos c_33, hb9]), rfl⟩) dX5_isPushed_38
set_option maxHeartbeats 4000000 in
set_option maxRecDepth 100000 in
theorem c_X5_clashing (l : Launch) (D : va_G) (cI cZ : ClassId) (ax : Nat) (t : Nat) (ga : Nat) (la : Nat) (wa : Nat) (pa : Nat) (te : Nat) (ts : Nat) (en : Nat → Nat) (st : Nat → Nat) (n : Nat) (gc : Nat) (gn : Nat) (cu : Nat → Nat) (ne : Nat → Nat) (sz : Nat) (wy : Nat) (k : Nat) (hn : n ≤ 16) (hen : ∀ k, en k < 4096) (hst : ∀ k, st k < 64) (hsz : sz ≤ 16) (hcu : ∀ k, cu k < 16) (hgz : wy = 1 → 1 ≤ sz) (hwy : wy < 2) (hk : k < n) : MI l D cI cZ yX5_clashing wsX5_clashing ({ frames := 4, cells := 0, slots := 0, locals := 87 }) [.ref ax, .int (nI wy), .int (nI k)] [(ax, .inr (5, [.ref t, .ref ga, .ref la, .ref wa, .ref pa])), (t, .inr (3, [.ref te, .ref ts, .int (nI n)])), (te, .inl (cI, 16, .inl (iA en))), (ts, .inl (cI, 17, .inl (iA st))), (ga, .inr (0, [.ref gc, .ref gn, .int (nI sz)])), (gc, .inl (cI, 16, .inl (iA cu))), (gn, .inl (cI, 16, .inl (iA ne)))] (fun r w => r = nI (cls en st cu n sz wy k) ∧ w = [(ax, .inr (5, [.ref t, .ref ga, .ref la, .ref wa, .ref pa])), (t, .inr (3, [.ref te, .ref ts, .int (nI n)])), (te, .inl (cI, 16, .inl (iA en))), (ts, .inl (cI, 17, .inl (iA st))), (ga, .inr (0, [.ref gc, .ref gn, .int (nI sz)])), (gc, .inl (cI, 16, .inl (iA cu))), (gn, .inl (cI, 16, .inl (iA ne)))]) := by
  refine MI.of (cc := cX5_clashing) (maxL := 5) (ret := (some .int)) (own := RX5) (by decide) rfl rfl (Nat.le_of_ble_eq_true rfl) ?_
  intro pQ eQ s mQ args below meth cQ A X hw ls hl
  obtain ⟨⟨hx, hb, hml, hown, hts⟩, hr, hlk, hK, hN, hA⟩ := id X
  have hl : lv_has ls 5 [(0, .ref ax), (1, .int (nI wy)), (2, .int (nI k))] := hl
  have n5 : ∀ w ∈ wsX50, w ∈ wsX5_clashing := by decide +kernel
  have f10 : FF args s RX5 wsX5_clashing 10 5 0 := ⟨_, rfl, by decide, n5, hts (.fieldLink RX5 10 "AirSteps" "text" "LAirSteps$Text;") (by decide +kernel)⟩
  refine lv_iconst (v := nI 0) hx hb dX5_clashing_0 (by decide) ?_
  refine lv_istore_n (lv' := [(3, .int (nI 0)), (0, .ref ax), (1, .int (nI wy)), (2, .int (nI k))]) hx hb dX5_clashing_1 rfl hl (by decide) rfl (fun ls hl => ?_)
  refine lv_iconst (v := nI 0) hx hb dX5_clashing_2 (by decide) ?_
  refine lv_istore (lv' := [(4, .int (nI 0)), (3, .int (nI 0)), (0, .ref ax), (1, .int (nI wy)), (2, .int (nI k))]) hx hb dX5_clashing_3 hl (by decide) rfl (fun ls hl => ?_)
  refine wl (α := Nat × Nat) (nL := 5) (fun a => n - a.2) (fun a => (a.2 ≤ n) ∧ (a.1 = pus en st cu n sz wy k a.2)) (fun a => [(ax, .inr (5, [.ref t, .ref ga, .ref la, .ref wa, .ref pa])), (t, .inr (3, [.ref te, .ref ts, .int (nI n)])), (te, .inl (cI, 16, .inl (iA en))), (ts, .inl (cI, 17, .inl (iA st))), (ga, .inr (0, [.ref gc, .ref gn, .int (nI sz)])), (gc, .inl (cI, 16, .inl (iA cu))), (gn, .inl (cI, 16, .inl (iA ne)))]) (fun a => [(4, .int (nI a.2)), (3, .int (nI a.1)), (0, .ref ax), (1, .int (nI wy)), (2, .int (nI k))]) ?_ (0, 0) ⟨(show 0 ≤ n from by omega), (show 0 = pus en st cu n sz wy k 0 from rfl)⟩ _ _ _ hw (lv_sub hl [0, 1, 2, 3, 4] rfl)
  rintro ⟨a, i⟩ ⟨hi, ha⟩ H locs ls hw hl ih_5
  have hi : i ≤ n := hi
  have ha : a = pus en st cu n sz wy k i := ha
  have hw : WD D A s.heap [(ax, .inr (5, [.ref t, .ref ga, .ref la, .ref wa, .ref pa])), (t, .inr (3, [.ref te, .ref ts, .int (nI n)])), (te, .inl (cI, 16, .inl (iA en))), (ts, .inl (cI, 17, .inl (iA st))), (ga, .inr (0, [.ref gc, .ref gn, .int (nI sz)])), (gc, .inl (cI, 16, .inl (iA cu))), (gn, .inl (cI, 16, .inl (iA ne)))] H locs := hw
  have hl : lv_has ls 5 [(4, .int (nI i)), (3, .int (nI a)), (0, .ref ax), (1, .int (nI wy)), (2, .int (nI k))] := hl
  have ha4 : a < 4096 := by rw [ha]; exact pus_lt hen i
  refine lv_iload hx hb dX5_clashing_5 (lv_at hl 0 rfl) ?_
  refine lv_aload_n hx hb dX5_clashing_7 rfl (lv_at hl 2 rfl) ?_
  refine x_get X hw f10 0 rfl rfl dX5_clashing_8 ?_
  refine x_callV (As := []) (rest := [.int (nI i)]) X hw hl.1 (c_X3_size l D cI cZ t te ts en st n ) (cwV 0 hts gX5_clashing_X3_size rfl rfl rfl (by decide +kernel) ⟨Nat.le_of_ble_eq_true rfl, Nat.le_of_ble_eq_true rfl⟩) [1, 2, 3] rfl rfl 0 rfl rfl rfl rfl (Nat.le_of_ble_eq_true rfl) dX5_clashing_11 (by decide) (fun r w1 H locs hp hw1 => ?_)
  obtain ⟨rfl, rfl⟩ := hp
  have hw : WD D A s.heap [(ax, .inr (5, [.ref t, .ref ga, .ref la, .ref wa, .ref pa])), (t, .inr (3, [.ref te, .ref ts, .int (nI n)])), (te, .inl (cI, 16, .inl (iA en))), (ts, .inl (cI, 17, .inl (iA st))), (ga, .inr (0, [.ref gc, .ref gn, .int (nI sz)])), (gc, .inl (cI, 16, .inl (iA cu))), (gn, .inl (cI, 16, .inl (iA ne)))] H locs := hw1 rfl
  refine lv_icmp_ge (tgt := 46) hx hb dX5_clashing_14 (by decide) (fun c_14 => ?_) (fun c_14 => ?_)
  · skip
    rw [nI_leI (by omega) (by omega)] at c_14
    refine lv_aload_n hx hb dX5_clashing_46 rfl (lv_at hl 2 rfl) ?_
    refine x_get X hw f10 0 rfl rfl dX5_clashing_47 ?_
    refine lv_iload_n hx hb dX5_clashing_50 rfl (lv_at hl 4 rfl) ?_
    refine x_callV (As := [.int (nI k)]) (rest := []) X hw hl.1 (c_X3_endsOf l D cI cZ t te ts en st n k (by first | assumption | omega) (by first | assumption | omega) (by first | assumption | omega) (by first | assumption | omega)) (cwV 1 hts gX5_clashing_X3_endsOf rfl rfl rfl (by decide +kernel) ⟨Nat.le_of_ble_eq_true rfl, Nat.le_of_ble_eq_true rfl⟩) [1, 2, 3] rfl rfl 0 rfl rfl rfl rfl (Nat.le_of_ble_eq_true rfl) dX5_clashing_51 (by decide) (fun r w1 H locs hp hw1 => ?_)
    obtain ⟨rfl, rfl⟩ := hp
    have hw : WD D A s.heap [(ax, .inr (5, [.ref t, .ref ga, .ref la, .ref wa, .ref pa])), (t, .inr (3, [.ref te, .ref ts, .int (nI n)])), (te, .inl (cI, 16, .inl (iA en))), (ts, .inl (cI, 17, .inl (iA st))), (ga, .inr (0, [.ref gc, .ref gn, .int (nI sz)])), (gc, .inl (cI, 16, .inl (iA cu))), (gn, .inl (cI, 16, .inl (iA ne)))] H locs := hw1 rfl
    have he9 := hen k
    refine lv_istore (lv' := [(4, .int (nI (en k))), (3, .int (nI a)), (0, .ref ax), (1, .int (nI wy)), (2, .int (nI k))]) hx hb dX5_clashing_54 hl (by decide) rfl (fun ls hl => ?_)
    refine lv_iload hx hb dX5_clashing_56 (lv_at hl 0 rfl) ?_
    refine x_callS (As := [.int (nI (en k))]) (rest := []) X hw hl.1 (c_X5_outsOf l D cI cZ (en k) (by first | assumption | omega)) (va_cwS 1 hts gX5_clashing_X5_outsOf rfl rfl rfl (by decide +kernel) ⟨Nat.le_of_ble_eq_true rfl, Nat.le_of_ble_eq_true rfl⟩) [] rfl rfl rfl (Nat.le_of_ble_eq_true rfl) dX5_clashing_58 (by decide) (fun r w1 H locs hp hw1 => ?_)
    obtain ⟨rfl, rfl⟩ := hp
    have hw : WD D A s.heap [(ax, .inr (5, [.ref t, .ref ga, .ref la, .ref wa, .ref pa])), (t, .inr (3, [.ref te, .ref ts, .int (nI n)])), (te, .inl (cI, 16, .inl (iA en))), (ts, .inl (cI, 17, .inl (iA st))), (ga, .inr (0, [.ref gc, .ref gn, .int (nI sz)])), (gc, .inl (cI, 16, .inl (iA cu))), (gn, .inl (cI, 16, .inl (iA ne)))] H locs := hw1 rfl
    refine lv_iload_n hx hb dX5_clashing_61 rfl (lv_at hl 1 rfl) ?_
    refine x_callS (As := [.int (nI a)]) (rest := [.int (nI ((en k) >>> 6))]) X hw hl.1 (c_X5_insOf l D cI cZ a ) (va_cwS 1 hts gX5_clashing_X5_insOf rfl rfl rfl (by decide +kernel) ⟨Nat.le_of_ble_eq_true rfl, Nat.le_of_ble_eq_true rfl⟩) [] rfl rfl rfl (Nat.le_of_ble_eq_true rfl) dX5_clashing_62 (by decide) (fun r w1 H locs hp hw1 => ?_)
    obtain ⟨rfl, rfl⟩ := hp
    have hw : WD D A s.heap [(ax, .inr (5, [.ref t, .ref ga, .ref la, .ref wa, .ref pa])), (t, .inr (3, [.ref te, .ref ts, .int (nI n)])), (te, .inl (cI, 16, .inl (iA en))), (ts, .inl (cI, 17, .inl (iA st))), (ga, .inr (0, [.ref gc, .ref gn, .int (nI sz)])), (gc, .inl (cI, 16, .inl (iA cu))), (gn, .inl (cI, 16, .inl (iA ne)))] H locs := hw1 rfl
    refine lv_iand hx hb dX5_clashing_65 ?_
    refine cv_i (show nI ((en k) >>> 6) &&& nI (a &&& 63) = nI (((en k) >>> 6) &&& (a &&& 63)) from q_and ((en k) >>> 6) (a &&& 63)) ?_
    refine lv_iload hx hb dX5_clashing_66 (lv_at hl 0 rfl) ?_
    refine x_callS (As := [.int (nI (en k))]) (rest := [.int (nI (((en k) >>> 6) &&& (a &&& 63)))]) X hw hl.1 (c_X5_insOf l D cI cZ (en k) ) (va_cwS 1 hts gX5_clashing_X5_insOf rfl rfl rfl (by decide +kernel) ⟨Nat.le_of_ble_eq_true rfl, Nat.le_of_ble_eq_true rfl⟩) [] rfl rfl rfl (Nat.le_of_ble_eq_true rfl) dX5_clashing_68 (by decide) (fun r w1 H locs hp hw1 => ?_)
    obtain ⟨rfl, rfl⟩ := hp
    have hw : WD D A s.heap [(ax, .inr (5, [.ref t, .ref ga, .ref la, .ref wa, .ref pa])), (t, .inr (3, [.ref te, .ref ts, .int (nI n)])), (te, .inl (cI, 16, .inl (iA en))), (ts, .inl (cI, 17, .inl (iA st))), (ga, .inr (0, [.ref gc, .ref gn, .int (nI sz)])), (gc, .inl (cI, 16, .inl (iA cu))), (gn, .inl (cI, 16, .inl (iA ne)))] H locs := hw1 rfl
    refine lv_iload_n hx hb dX5_clashing_71 rfl (lv_at hl 1 rfl) ?_
    refine x_callS (As := [.int (nI a)]) (rest := [.int (nI ((en k) &&& 63)), .int (nI (((en k) >>> 6) &&& (a &&& 63)))]) X hw hl.1 (c_X5_outsOf l D cI cZ a (by first | assumption | omega)) (va_cwS 1 hts gX5_clashing_X5_outsOf rfl rfl rfl (by decide +kernel) ⟨Nat.le_of_ble_eq_true rfl, Nat.le_of_ble_eq_true rfl⟩) [] rfl rfl rfl (Nat.le_of_ble_eq_true rfl) dX5_clashing_72 (by decide) (fun r w1 H locs hp hw1 => ?_)
    obtain ⟨rfl, rfl⟩ := hp
    have hw : WD D A s.heap [(ax, .inr (5, [.ref t, .ref ga, .ref la, .ref wa, .ref pa])), (t, .inr (3, [.ref te, .ref ts, .int (nI n)])), (te, .inl (cI, 16, .inl (iA en))), (ts, .inl (cI, 17, .inl (iA st))), (ga, .inr (0, [.ref gc, .ref gn, .int (nI sz)])), (gc, .inl (cI, 16, .inl (iA cu))), (gn, .inl (cI, 16, .inl (iA ne)))] H locs := hw1 rfl
    refine lv_iand hx hb dX5_clashing_75 ?_
    refine cv_i (show nI ((en k) &&& 63) &&& nI (a >>> 6) = nI (((en k) &&& 63) &&& (a >>> 6)) from q_and ((en k) &&& 63) (a >>> 6)) ?_
    refine lv_ior hx hb dX5_clashing_76 ?_
    refine cv_i (show nI (((en k) >>> 6) &&& (a &&& 63)) ||| nI (((en k) &&& 63) &&& (a >>> 6)) = nI ((((en k) >>> 6) &&& (a &&& 63)) ||| (((en k) &&& 63) &&& (a >>> 6))) from q_or (((en k) >>> 6) &&& (a &&& 63)) (((en k) &&& 63) &&& (a >>> 6))) ?_
    exact x_iret X hw (⟨(by rw [ha, show i = n by omega]; rfl), rfl⟩) dX5_clashing_77
  · skip
    rw [nI_leI (by omega) (by omega)] at c_14
    refine lv_aload_n hx hb dX5_clashing_17 rfl (lv_at hl 2 rfl) ?_
    refine lv_iload_n hx hb dX5_clashing_18 rfl (lv_at hl 3 rfl) ?_
    refine lv_iload hx hb dX5_clashing_19 (lv_at hl 0 rfl) ?_
    refine lv_iload_n hx hb dX5_clashing_21 rfl (lv_at hl 4 rfl) ?_
    refine x_callV (As := [.int (nI wy), .int (nI i), .int (nI k)]) (rest := []) X hw hl.1 (c_X5_isPushed l D cI cZ ax t ga la wa pa te ts en st n gc gn cu ne sz wy i k (by first | assumption | omega) (by first | assumption | omega) (by first | assumption | omega) (by first | assumption | omega) (by first | assumption | omega) (by first | assumption | omega) (by first | assumption | omega) (by first | assumption | omega) (by first | assumption | omega)) (cwV 3 hts gX5_clashing_X5_isPushed rfl rfl rfl (by decide +kernel) ⟨Nat.le_of_ble_eq_true rfl, Nat.le_of_ble_eq_true rfl⟩) [0, 1, 2, 3, 4, 5, 6] rfl rfl 0 rfl rfl rfl rfl (Nat.le_of_ble_eq_true rfl) dX5_clashing_22 (by decide) (fun r w1 H locs hp hw1 => ?_)
    obtain ⟨rfl, rfl⟩ := hp
    have hw : WD D A s.heap [(ax, .inr (5, [.ref t, .ref ga, .ref la, .ref wa, .ref pa])), (t, .inr (3, [.ref te, .ref ts, .int (nI n)])), (te, .inl (cI, 16, .inl (iA en))), (ts, .inl (cI, 17, .inl (iA st))), (ga, .inr (0, [.ref gc, .ref gn, .int (nI sz)])), (gc, .inl (cI, 16, .inl (iA cu))), (gn, .inl (cI, 16, .inl (iA ne)))] H locs := hw1 rfl
    refine lv_if_eq (tgt := 40) hx hb dX5_clashing_25 (by decide) (fun c_25 => ?_) (fun c_25 => ?_)
    · skip
      rw [q_b0] at c_25; try simp only [Bool.not_eq_false, Bool.not_eq_true] at c_25
      refine lv_iinc (v := nI (i + 1)) (lv' := [(4, .int (nI (i + 1))), (3, .int (nI a)), (0, .ref ax), (1, .int (nI wy)), (2, .int (nI k))]) hx hb dX5_clashing_40 hl (k := 0) rfl (nI_add i 1) (by decide) rfl (fun ls hl => ?_)
      refine lv_goto (tgt := 5) hx hb dX5_clashing_43 (by decide) ?_
      exact ih_5 (a, i + 1) (by show n - (i + 1) < n - i; omega) ⟨(show (i + 1) ≤ n from by omega), (show a = pus en st cu n sz wy k (i + 1) from by rw [ha]; simp [pus, fo, c_25])⟩ _ _ _ hw (lv_sub hl [0, 1, 2, 3, 4] rfl)
    · skip
      rw [q_b0] at c_25; try simp only [Bool.not_eq_false, Bool.not_eq_true] at c_25
      refine lv_iload_n hx hb dX5_clashing_28 rfl (lv_at hl 1 rfl) ?_
      refine lv_aload_n hx hb dX5_clashing_29 rfl (lv_at hl 2 rfl) ?_
      refine x_get X hw f10 0 rfl rfl dX5_clashing_30 ?_
      refine lv_iload hx hb dX5_clashing_33 (lv_at hl 0 rfl) ?_
      refine x_callV (As := [.int (nI i)]) (rest := [.int (nI a)]) X hw hl.1 (c_X3_endsOf l D cI cZ t te ts en st n i (by first | assumption | omega) (by first | assumption | omega) (by first | assumption | omega) (by first | assumption | omega)) (cwV 1 hts gX5_clashing_X3_endsOf rfl rfl rfl (by decide +kernel) ⟨Nat.le_of_ble_eq_true rfl, Nat.le_of_ble_eq_true rfl⟩) [1, 2, 3] rfl rfl 0 rfl rfl rfl rfl (Nat.le_of_ble_eq_true rfl) dX5_clashing_35 (by decide) (fun r w1 H locs hp hw1 => ?_)
      obtain ⟨rfl, rfl⟩ := hp
      have hw : WD D A s.heap [(ax, .inr (5, [.ref t, .ref ga, .ref la, .ref wa, .ref pa])), (t, .inr (3, [.ref te, .ref ts, .int (nI n)])), (te, .inl (cI, 16, .inl (iA en))), (ts, .inl (cI, 17, .inl (iA st))), (ga, .inr (0, [.ref gc, .ref gn, .int (nI sz)])), (gc, .inl (cI, 16, .inl (iA cu))), (gn, .inl (cI, 16, .inl (iA ne)))] H locs := hw1 rfl
      refine lv_ior hx hb dX5_clashing_38 ?_
      refine cv_i (show nI a ||| nI (en i) = nI (a ||| (en i)) from q_or a (en i)) ?_
      refine lv_istore_n (lv' := [(3, .int (nI (a ||| (en i)))), (4, .int (nI i)), (0, .ref ax), (1, .int (nI wy)), (2, .int (nI k))]) hx hb dX5_clashing_39 rfl hl (by decide) rfl (fun ls hl => ?_)
      refine lv_iinc (v := nI (i + 1)) (lv' := [(4, .int (nI (i + 1))), (3, .int (nI (a ||| (en i)))), (0, .ref ax), (1, .int (nI wy)), (2, .int (nI k))]) hx hb dX5_clashing_40 hl (k := 1) rfl (nI_add i 1) (by decide) rfl (fun ls hl => ?_)
      refine lv_goto (tgt := 5) hx hb dX5_clashing_43 (by decide) ?_
      exact ih_5 (a ||| (en i), i + 1) (by show n - (i + 1) < n - i; omega) ⟨(show (i + 1) ≤ n from by omega), (show (a ||| (en i)) = pus en st cu n sz wy k (i + 1) from by rw [ha]; simp [pus, fo, c_25])⟩ _ _ _ hw (lv_sub hl [0, 1, 2, 3, 4] rfl)
set_option maxHeartbeats 4000000 in
set_option maxRecDepth 100000 in
theorem c_X5_firstClash (l : Launch) (D : va_G) (cI cZ : ClassId) (ax : Nat) (t : Nat) (ga : Nat) (la : Nat) (wa : Nat) (pa : Nat) (te : Nat) (ts : Nat) (en : Nat → Nat) (st : Nat → Nat) (n : Nat) (gc : Nat) (gn : Nat) (cu : Nat → Nat) (ne : Nat → Nat) (sz : Nat) (wy : Nat) (hn : n ≤ 16) (hen : ∀ k, en k < 4096) (hst : ∀ k, st k < 64) (hsz : sz ≤ 16) (hcu : ∀ k, cu k < 16) (hne : ∀ k, ne k ≤ 1000) (hwy : wy < 2) (hn0 : 0 < n) : MI l D cI cZ yX5_firstClash wsX5_firstClash ({ frames := 5, cells := 0, slots := 0, locals := 118 }) [.ref ax, .int (nI wy)] [(ax, .inr (5, [.ref t, .ref ga, .ref la, .ref wa, .ref pa])), (t, .inr (3, [.ref te, .ref ts, .int (nI n)])), (te, .inl (cI, 16, .inl (iA en))), (ts, .inl (cI, 17, .inl (iA st))), (ga, .inr (0, [.ref gc, .ref gn, .int (nI sz)])), (gc, .inl (cI, 16, .inl (iA cu))), (gn, .inl (cI, 16, .inl (iA ne)))] (fun r w => ∃ nf9 : Nat → Nat, ∃ cu9 : Nat → Nat, ∃ sz9 : Nat, (wy = 1 → FD en n cu9 sz9) ∧ (∀ k, nf9 k ≤ 1000) ∧ (∀ k, cu9 k < 16) ∧ (sz9 ≤ 16) ∧ (wy = 1 → 1 ≤ sz9) ∧ r = fsI (clP en st cu9 n sz9 wy) n ∧ w = [(ax, .inr (5, [.ref t, .ref ga, .ref la, .ref wa, .ref pa])), (t, .inr (3, [.ref te, .ref ts, .int (nI n)])), (te, .inl (cI, 16, .inl (iA en))), (ts, .inl (cI, 17, .inl (iA st))), (ga, .inr (0, [.ref gc, .ref gn, .int (nI sz9)])), (gc, .inl (cI, 16, .inl (iA cu9))), (gn, .inl (cI, 16, .inl (iA nf9)))]) := by
  refine MI.of (cc := cX5_firstClash) (maxL := 3) (ret := (some .int)) (own := RX5) (by decide) rfl rfl (Nat.le_of_ble_eq_true rfl) ?_
  intro pQ eQ s mQ args below meth cQ A X hw ls hl
  obtain ⟨⟨hx, hb, hml, hown, hts⟩, hr, hlk, hK, hN, hA⟩ := id X
  have hl : lv_has ls 3 [(0, .ref ax), (1, .int (nI wy))] := hl
  have n5 : ∀ w ∈ wsX50, w ∈ wsX5_firstClash := by decide +kernel
  have f10 : FF args s RX5 wsX5_firstClash 10 5 0 := ⟨_, rfl, by decide, n5, hts (.fieldLink RX5 10 "AirSteps" "text" "LAirSteps$Text;") (by decide +kernel)⟩
  have f19 : FF args s RX5 wsX5_firstClash 19 5 1 := ⟨_, rfl, by decide, n5, hts (.fieldLink RX5 19 "AirSteps" "rows" "LAirSteps$Groups;") (by decide +kernel)⟩
  refine wj (α := (Nat → Nat) × (Nat → Nat) × Nat) (nL := 3) 16 (fun a => (wy = 1 → FD en n a.2.1 a.2.2) ∧ (∀ k, a.1 k ≤ 1000) ∧ (∀ k, a.2.1 k < 16) ∧ (a.2.2 ≤ 16) ∧ (wy = 1 → 1 ≤ a.2.2)) (fun a => [(ax, .inr (5, [.ref t, .ref ga, .ref la, .ref wa, .ref pa])), (t, .inr (3, [.ref te, .ref ts, .int (nI n)])), (te, .inl (cI, 16, .inl (iA en))), (ts, .inl (cI, 17, .inl (iA st))), (ga, .inr (0, [.ref gc, .ref gn, .int (nI a.2.2)])), (gc, .inl (cI, 16, .inl (iA a.2.1))), (gn, .inl (cI, 16, .inl (iA a.1)))]) (fun a => [(0, .ref ax), (1, .int (nI wy))]) (fun a => []) (D := D) (A := A) (H0 := s.heap) (fun J16 => ?_) ?_
  · skip
    refine lv_iload_n hx hb dX5_firstClash_0 rfl (lv_at hl 1 rfl) ?_
    refine lv_iconst (v := nI 1) hx hb dX5_firstClash_1 (by decide) ?_
    refine lv_icmp_ne (tgt := 16) hx hb dX5_firstClash_2 (by decide) (fun c_2 => ?_) (fun c_2 => ?_)
    · skip
      rw [nI_eq (by omega) (by omega)] at c_2
      exact J16 (ne, cu, sz) ⟨(show wy = 1 → FD en n cu sz from by first | (intro h; exact absurd h c_2) | (intro _; exact hFD2)), (show ∀ k, ne k ≤ 1000 from by assumption), (show ∀ k, cu k < 16 from by assumption), (show sz ≤ 16 from by assumption), (show wy = 1 → 1 ≤ sz from by first | (intro h; exact absurd h c_2) | (intro _; exact hs12))⟩ _ _ _ hw (lv_sub hl [0, 1] rfl)
    · skip
      rw [nI_eq (by omega) (by omega)] at c_2
      refine lv_aload_n hx hb dX5_firstClash_5 rfl (lv_at hl 0 rfl) ?_
      refine x_get X hw f19 0 rfl rfl dX5_firstClash_6 ?_
      refine lv_aload_n hx hb dX5_firstClash_9 rfl (lv_at hl 0 rfl) ?_
      refine x_get X hw f10 0 rfl rfl dX5_firstClash_10 ?_
      refine x_callVv (As := [.ref t]) (rest := []) X hw hl.1 (c_X0_find l D cI cZ ga gc gn cu ne sz t te ts en st n (by first | assumption | omega) (by first | assumption | omega) (by first | assumption | omega) (by first | assumption | omega) (by first | assumption | omega) (by first | assumption | omega)) (cwV 1 hts gX5_firstClash_X0_find rfl rfl rfl (by decide +kernel) ⟨Nat.le_of_ble_eq_true rfl, Nat.le_of_ble_eq_true rfl⟩) [4, 5, 6, 1, 2, 3] rfl rfl 0 rfl rfl rfl rfl (Nat.le_of_ble_eq_true rfl) dX5_firstClash_13 (by decide) (fun w1 H locs hp hw1 => ?_)
      obtain ⟨nf2, cu2, sz2, hFD2, hnf2, hcu2, hsz2, hs12, rfl⟩ := hp
      have hw : WD D A s.heap [(ax, .inr (5, [.ref t, .ref ga, .ref la, .ref wa, .ref pa])), (t, .inr (3, [.ref te, .ref ts, .int (nI n)])), (te, .inl (cI, 16, .inl (iA en))), (ts, .inl (cI, 17, .inl (iA st))), (ga, .inr (0, [.ref gc, .ref gn, .int (nI sz2)])), (gc, .inl (cI, 16, .inl (iA cu2))), (gn, .inl (cI, 16, .inl (iA nf2)))] H locs := hw1 rfl
      exact J16 (nf2, cu2, sz2) ⟨(show wy = 1 → FD en n cu2 sz2 from by first | (intro h; exact absurd h c_2) | (intro _; exact hFD2)), (show ∀ k, nf2 k ≤ 1000 from by assumption), (show ∀ k, cu2 k < 16 from by assumption), (show sz2 ≤ 16 from by assumption), (show wy = 1 → 1 ≤ sz2 from by first | (intro h; exact absurd h c_2) | (intro _; exact hs12))⟩ _ _ _ hw (lv_sub hl [0, 1] rfl)
  · rintro ⟨nf9, cu9, sz9⟩ ⟨hFD, hnf9, hcu9, hsz9, hs19⟩ H locs ls hw hl
    have hFD : wy = 1 → FD en n cu9 sz9 := hFD
    have hnf9 : ∀ k, nf9 k ≤ 1000 := hnf9
    have hcu9 : ∀ k, cu9 k < 16 := hcu9
    have hsz9 : sz9 ≤ 16 := hsz9
    have hs19 : wy = 1 → 1 ≤ sz9 := hs19
    have hw : WD D A s.heap [(ax, .inr (5, [.ref t, .ref ga, .ref la, .ref wa, .ref pa])), (t, .inr (3, [.ref te, .ref ts, .int (nI n)])), (te, .inl (cI, 16, .inl (iA en))), (ts, .inl (cI, 17, .inl (iA st))), (ga, .inr (0, [.ref gc, .ref gn, .int (nI sz9)])), (gc, .inl (cI, 16, .inl (iA cu9))), (gn, .inl (cI, 16, .inl (iA nf9)))] H locs := hw
    have hl : lv_has ls 3 [(0, .ref ax), (1, .int (nI wy))] := hl
    refine lv_iconst (v := nI 0) hx hb dX5_firstClash_16 (by decide) ?_
    refine lv_istore_n (lv' := [(2, .int (nI 0)), (0, .ref ax), (1, .int (nI wy))]) hx hb dX5_firstClash_17 rfl hl (by decide) rfl (fun ls hl => ?_)
    refine wl (α := Nat) (nL := 3) (fun a => n - a) (fun a => (a ≤ n) ∧ (∀ j, j < a → clP en st cu9 n sz9 wy j = false)) (fun a => [(ax, .inr (5, [.ref t, .ref ga, .ref la, .ref wa, .ref pa])), (t, .inr (3, [.ref te, .ref ts, .int (nI n)])), (te, .inl (cI, 16, .inl (iA en))), (ts, .inl (cI, 17, .inl (iA st))), (ga, .inr (0, [.ref gc, .ref gn, .int (nI sz9)])), (gc, .inl (cI, 16, .inl (iA cu9))), (gn, .inl (cI, 16, .inl (iA nf9)))]) (fun a => [(2, .int (nI a)), (0, .ref ax), (1, .int (nI wy))]) ?_ 0 ⟨(show 0 ≤ n from by omega), (show ∀ j, j < 0 → clP en st cu9 n sz9 wy j = false from fun j hj => absurd hj (Nat.not_lt_zero j))⟩ _ _ _ hw (lv_sub hl [0, 1, 2] rfl)
    rintro i ⟨hi, hq⟩ H locs ls hw hl ih_18
    have hi : i ≤ n := hi
    have hq : ∀ j, j < i → clP en st cu9 n sz9 wy j = false := hq
    have hw : WD D A s.heap [(ax, .inr (5, [.ref t, .ref ga, .ref la, .ref wa, .ref pa])), (t, .inr (3, [.ref te, .ref ts, .int (nI n)])), (te, .inl (cI, 16, .inl (iA en))), (ts, .inl (cI, 17, .inl (iA st))), (ga, .inr (0, [.ref gc, .ref gn, .int (nI sz9)])), (gc, .inl (cI, 16, .inl (iA cu9))), (gn, .inl (cI, 16, .inl (iA nf9)))] H locs := hw
    have hl : lv_has ls 3 [(2, .int (nI i)), (0, .ref ax), (1, .int (nI wy))] := hl
    refine lv_iload_n hx hb dX5_firstClash_18 rfl (lv_at hl 0 rfl) ?_
    refine lv_aload_n hx hb dX5_firstClash_19 rfl (lv_at hl 1 rfl) ?_
    refine x_get X hw f10 0 rfl rfl dX5_firstClash_20 ?_
    refine x_callV (As := []) (rest := [.int (nI i)]) X hw hl.1 (c_X3_size l D cI cZ t te ts en st n ) (cwV 0 hts gX5_firstClash_X3_size rfl rfl rfl (by decide +kernel) ⟨Nat.le_of_ble_eq_true rfl, Nat.le_of_ble_eq_true rfl⟩) [1, 2, 3] rfl rfl 0 rfl rfl rfl rfl (Nat.le_of_ble_eq_true rfl) dX5_firstClash_23 (by decide) (fun r w1 H locs hp hw1 => ?_)
    obtain ⟨rfl, rfl⟩ := hp
    have hw : WD D A s.heap [(ax, .inr (5, [.ref t, .ref ga, .ref la, .ref wa, .ref pa])), (t, .inr (3, [.ref te, .ref ts, .int (nI n)])), (te, .inl (cI, 16, .inl (iA en))), (ts, .inl (cI, 17, .inl (iA st))), (ga, .inr (0, [.ref gc, .ref gn, .int (nI sz9)])), (gc, .inl (cI, 16, .inl (iA cu9))), (gn, .inl (cI, 16, .inl (iA nf9)))] H locs := hw1 rfl
    refine lv_icmp_ge (tgt := 46) hx hb dX5_firstClash_26 (by decide) (fun c_26 => ?_) (fun c_26 => ?_)
    · skip
      rw [nI_leI (by omega) (by omega)] at c_26
      refine lv_iconst (v := (-1)) hx hb dX5_firstClash_46 (by decide) ?_
      exact x_iret X hw (⟨nf9, cu9, sz9, (hFD), (hnf9), (hcu9), (hsz9), (hs19), ((fsI_no (fun j hj => hq j (by omega))).symm), rfl⟩) dX5_firstClash_47
    · skip
      rw [nI_leI (by omega) (by omega)] at c_26
      refine lv_aload_n hx hb dX5_firstClash_29 rfl (lv_at hl 1 rfl) ?_
      refine lv_iload_n hx hb dX5_firstClash_30 rfl (lv_at hl 2 rfl) ?_
      refine lv_iload_n hx hb dX5_firstClash_31 rfl (lv_at hl 0 rfl) ?_
      refine x_callV (As := [.int (nI wy), .int (nI i)]) (rest := []) X hw hl.1 (c_X5_clashing l D cI cZ ax t ga la wa pa te ts en st n gc gn cu9 nf9 sz9 wy i (by first | assumption | omega) (by first | assumption | omega) (by first | assumption | omega) (hsz9) (hcu9) (hs19) (by first | assumption | omega) (by first | assumption | omega)) (cwV 2 hts gX5_firstClash_X5_clashing rfl rfl rfl (by decide +kernel) ⟨Nat.le_of_ble_eq_true rfl, Nat.le_of_ble_eq_true rfl⟩) [0, 1, 2, 3, 4, 5, 6] rfl rfl 0 rfl rfl rfl rfl (Nat.le_of_ble_eq_true rfl) dX5_firstClash_32 (by decide) (fun r w1 H locs hp hw1 => ?_)
      obtain ⟨rfl, rfl⟩ := hp
      have hw : WD D A s.heap [(ax, .inr (5, [.ref t, .ref ga, .ref la, .ref wa, .ref pa])), (t, .inr (3, [.ref te, .ref ts, .int (nI n)])), (te, .inl (cI, 16, .inl (iA en))), (ts, .inl (cI, 17, .inl (iA st))), (ga, .inr (0, [.ref gc, .ref gn, .int (nI sz9)])), (gc, .inl (cI, 16, .inl (iA cu9))), (gn, .inl (cI, 16, .inl (iA nf9)))] H locs := hw1 rfl
      have hcl : cls en st cu9 n sz9 wy i < 64 := clsE_lt _ _ (hen i)
      refine lv_if_eq (tgt := 40) hx hb dX5_firstClash_35 (by decide) (fun c_35 => ?_) (fun c_35 => ?_)
      · skip
        rw [q_eq0 (by omega)] at c_35
        refine lv_iinc (v := nI (i + 1)) (lv' := [(2, .int (nI (i + 1))), (0, .ref ax), (1, .int (nI wy))]) hx hb dX5_firstClash_40 hl (k := 0) rfl (nI_add i 1) (by decide) rfl (fun ls hl => ?_)
        refine lv_goto (tgt := 18) hx hb dX5_firstClash_43 (by decide) ?_
        exact ih_18 (i + 1) (by show n - (i + 1) < n - i; omega) ⟨(show (i + 1) ≤ n from by omega), (show ∀ j, j < (i + 1) → clP en st cu9 n sz9 wy j = false from lt_snoc hq (by simp [clP, c_35]))⟩ _ _ _ hw (lv_sub hl [0, 1, 2] rfl)
      · skip
        rw [q_eq0 (by omega)] at c_35
        refine lv_iload_n hx hb dX5_firstClash_38 rfl (lv_at hl 0 rfl) ?_
        exact x_iret X hw (⟨nf9, cu9, sz9, (hFD), (hnf9), (hcu9), (hsz9), (hs19), ((fsI_yes (by omega) hq (by simp [clP, c_35])).symm), rfl⟩) dX5_firstClash_39
end
