section
-- ===== PART A: goes FIRST, ahead of the names: the tables' words, and 'selects' of the private methods out of them =====
/-- a private method of a class that the tables say can be made, by its rows of tables_1 -/
def lw_okq (q : MethodName × Nat) : Prop := (q.1.cls ≠ "java/lang/invoke/MethodHandle" ∧ q.1.cls ≠ "java/lang/invoke/VarHandle") ∧ Cond.instantiable q.1.cls q.2 ∈ tables_1 ∧ Cond.privateMethod q.1 ∈ tables_1 ∧ Cond.instanceMethod q.1 ∈ tables_1
theorem lw_p0 : lw_okq (⟨"TurningSums", "setPrime", "(I)V"⟩, 12) := ⟨⟨by decide +kernel, by decide +kernel⟩, List.mem_of_getElem? (i := 7) (by decide +kernel), List.mem_of_getElem? (i := 17) (by decide +kernel), List.mem_of_getElem? (i := 18) (by decide +kernel)⟩
theorem lw_p1 : lw_okq (⟨"TurningSums", "leastRoot", "()I"⟩, 12) := ⟨⟨by decide +kernel, by decide +kernel⟩, List.mem_of_getElem? (i := 7) (by decide +kernel), List.mem_of_getElem? (i := 21) (by decide +kernel), List.mem_of_getElem? (i := 22) (by decide +kernel)⟩
theorem lw_p2 : lw_okq (⟨"TurningSums", "hasAllPowers", "(I)Z"⟩, 12) := ⟨⟨by decide +kernel, by decide +kernel⟩, List.mem_of_getElem? (i := 7) (by decide +kernel), List.mem_of_getElem? (i := 25) (by decide +kernel), List.mem_of_getElem? (i := 26) (by decide +kernel)⟩
theorem lw_p3 : lw_okq (⟨"TurningSums", "setDegree", "(I)V"⟩, 12) := ⟨⟨by decide +kernel, by decide +kernel⟩, List.mem_of_getElem? (i := 7) (by decide +kernel), List.mem_of_getElem? (i := 29) (by decide +kernel), List.mem_of_getElem? (i := 30) (by decide +kernel)⟩
theorem lw_p4 : lw_okq (⟨"TurningSums", "sharesDivisor", "(I)Z"⟩, 12) := ⟨⟨by decide +kernel, by decide +kernel⟩, List.mem_of_getElem? (i := 7) (by decide +kernel), List.mem_of_getElem? (i := 33) (by decide +kernel), List.mem_of_getElem? (i := 34) (by decide +kernel)⟩
theorem lw_p5 : lw_okq (⟨"TurningSums", "classOf", "(I)I"⟩, 12) := ⟨⟨by decide +kernel, by decide +kernel⟩, List.mem_of_getElem? (i := 7) (by decide +kernel), List.mem_of_getElem? (i := 97) (by decide +kernel), List.mem_of_getElem? (i := 98) (by decide +kernel)⟩
theorem lw_p6 : lw_okq (⟨"TurningSums", "isClass", "(I)Z"⟩, 12) := ⟨⟨by decide +kernel, by decide +kernel⟩, List.mem_of_getElem? (i := 7) (by decide +kernel), List.mem_of_getElem? (i := 105) (by decide +kernel), List.mem_of_getElem? (i := 106) (by decide +kernel)⟩
theorem lw_p7 : lw_okq (⟨"TurningSums", "store", "(I)I"⟩, 12) := ⟨⟨by decide +kernel, by decide +kernel⟩, List.mem_of_getElem? (i := 7) (by decide +kernel), List.mem_of_getElem? (i := 119) (by decide +kernel), List.mem_of_getElem? (i := 120) (by decide +kernel)⟩
theorem lw_p8 : lw_okq (⟨"TurningSums", "reduce", "()V"⟩, 12) := ⟨⟨by decide +kernel, by decide +kernel⟩, List.mem_of_getElem? (i := 7) (by decide +kernel), List.mem_of_getElem? (i := 123) (by decide +kernel), List.mem_of_getElem? (i := 124) (by decide +kernel)⟩
theorem lw_p9 : lw_okq (⟨"TurningSums", "multiply", "([I[II)V"⟩, 12) := ⟨⟨by decide +kernel, by decide +kernel⟩, List.mem_of_getElem? (i := 7) (by decide +kernel), List.mem_of_getElem? (i := 139) (by decide +kernel), List.mem_of_getElem? (i := 140) (by decide +kernel)⟩
theorem lw_p10 : lw_okq (⟨"TurningSums", "add", "([I[II)V"⟩, 12) := ⟨⟨by decide +kernel, by decide +kernel⟩, List.mem_of_getElem? (i := 7) (by decide +kernel), List.mem_of_getElem? (i := 143) (by decide +kernel), List.mem_of_getElem? (i := 144) (by decide +kernel)⟩
theorem lw_p11 : lw_okq (⟨"TurningSums", "likePower", "(I)I"⟩, 12) := ⟨⟨by decide +kernel, by decide +kernel⟩, List.mem_of_getElem? (i := 7) (by decide +kernel), List.mem_of_getElem? (i := 169) (by decide +kernel), List.mem_of_getElem? (i := 170) (by decide +kernel)⟩
theorem lw_p12 : lw_okq (⟨"TurningSums", "lengthened", "(JI)J"⟩, 12) := ⟨⟨by decide +kernel, by decide +kernel⟩, List.mem_of_getElem? (i := 7) (by decide +kernel), List.mem_of_getElem? (i := 178) (by decide +kernel), List.mem_of_getElem? (i := 179) (by decide +kernel)⟩
theorem lw_p13 : lw_okq (⟨"TurningSums", "isSet", "(I)Z"⟩, 12) := ⟨⟨by decide +kernel, by decide +kernel⟩, List.mem_of_getElem? (i := 7) (by decide +kernel), List.mem_of_getElem? (i := 189) (by decide +kernel), List.mem_of_getElem? (i := 190) (by decide +kernel)⟩
theorem lw_p14 : lw_okq (⟨"TurningSums", "fillSigns", "(II)V"⟩, 12) := ⟨⟨by decide +kernel, by decide +kernel⟩, List.mem_of_getElem? (i := 7) (by decide +kernel), List.mem_of_getElem? (i := 196) (by decide +kernel), List.mem_of_getElem? (i := 197) (by decide +kernel)⟩
theorem lw_p15 : lw_okq (⟨"TurningSums", "agreement", "(I)I"⟩, 12) := ⟨⟨by decide +kernel, by decide +kernel⟩, List.mem_of_getElem? (i := 7) (by decide +kernel), List.mem_of_getElem? (i := 200) (by decide +kernel), List.mem_of_getElem? (i := 201) (by decide +kernel)⟩
def lw_privs_1 : List (MethodName × Nat) := [(⟨"TurningSums", "setPrime", "(I)V"⟩, 12), (⟨"TurningSums", "leastRoot", "()I"⟩, 12), (⟨"TurningSums", "hasAllPowers", "(I)Z"⟩, 12), (⟨"TurningSums", "setDegree", "(I)V"⟩, 12), (⟨"TurningSums", "sharesDivisor", "(I)Z"⟩, 12), (⟨"TurningSums", "classOf", "(I)I"⟩, 12), (⟨"TurningSums", "isClass", "(I)Z"⟩, 12), (⟨"TurningSums", "store", "(I)I"⟩, 12), (⟨"TurningSums", "reduce", "()V"⟩, 12), (⟨"TurningSums", "multiply", "([I[II)V"⟩, 12), (⟨"TurningSums", "add", "([I[II)V"⟩, 12), (⟨"TurningSums", "likePower", "(I)I"⟩, 12), (⟨"TurningSums", "lengthened", "(JI)J"⟩, 12), (⟨"TurningSums", "isSet", "(I)Z"⟩, 12), (⟨"TurningSums", "fillSigns", "(II)V"⟩, 12), (⟨"TurningSums", "agreement", "(I)I"⟩, 12)]
theorem lw_r1 : ∀ q ∈ lw_privs_1, lw_okq q := List.forall_mem_cons.mpr ⟨lw_p0, List.forall_mem_cons.mpr ⟨lw_p1, List.forall_mem_cons.mpr ⟨lw_p2, List.forall_mem_cons.mpr ⟨lw_p3, List.forall_mem_cons.mpr ⟨lw_p4, List.forall_mem_cons.mpr ⟨lw_p5, List.forall_mem_cons.mpr ⟨lw_p6, List.forall_mem_cons.mpr ⟨lw_p7, List.forall_mem_cons.mpr ⟨lw_p8, List.forall_mem_cons.mpr ⟨lw_p9, List.forall_mem_cons.mpr ⟨lw_p10, List.forall_mem_cons.mpr ⟨lw_p11, List.forall_mem_cons.mpr ⟨lw_p12, List.forall_mem_cons.mpr ⟨lw_p13, List.forall_mem_cons.mpr ⟨lw_p14, List.forall_mem_cons.mpr ⟨lw_p15, fun _ h => absurd h List.not_mem_nil⟩⟩⟩⟩⟩⟩⟩⟩⟩⟩⟩⟩⟩⟩⟩⟩
theorem lw_p16 : lw_okq (⟨"TurningSums", "differences", "(I)I"⟩, 12) := ⟨⟨by decide +kernel, by decide +kernel⟩, List.mem_of_getElem? (i := 7) (by decide +kernel), List.mem_of_getElem? (i := 218) (by decide +kernel), List.mem_of_getElem? (i := 219) (by decide +kernel)⟩
theorem lw_p17 : lw_okq (⟨"TurningSums", "classNumberBySums", "()I"⟩, 12) := ⟨⟨by decide +kernel, by decide +kernel⟩, List.mem_of_getElem? (i := 7) (by decide +kernel), List.mem_of_getElem? (i := 226) (by decide +kernel), List.mem_of_getElem? (i := 227) (by decide +kernel)⟩
theorem lw_p18 : lw_okq (⟨"TurningSums", "classNumberByForms", "()I"⟩, 12) := ⟨⟨by decide +kernel, by decide +kernel⟩, List.mem_of_getElem? (i := 7) (by decide +kernel), List.mem_of_getElem? (i := 230) (by decide +kernel), List.mem_of_getElem? (i := 231) (by decide +kernel)⟩
theorem lw_p19 : lw_okq (⟨"TurningSums", "isForm", "(II)Z"⟩, 12) := ⟨⟨by decide +kernel, by decide +kernel⟩, List.mem_of_getElem? (i := 7) (by decide +kernel), List.mem_of_getElem? (i := 234) (by decide +kernel), List.mem_of_getElem? (i := 235) (by decide +kernel)⟩
theorem lw_p20 : lw_okq (⟨"TurningSumsModel", "begin", "(I)V"⟩, 11) := ⟨⟨by decide +kernel, by decide +kernel⟩, List.mem_of_getElem? (i := 242) (by decide +kernel), List.mem_of_getElem? (i := 248) (by decide +kernel), List.mem_of_getElem? (i := 249) (by decide +kernel)⟩
theorem lw_p21 : lw_okq (⟨"TurningSumsModel", "setDegree", "(I)V"⟩, 11) := ⟨⟨by decide +kernel, by decide +kernel⟩, List.mem_of_getElem? (i := 242) (by decide +kernel), List.mem_of_getElem? (i := 252) (by decide +kernel), List.mem_of_getElem? (i := 253) (by decide +kernel)⟩
theorem lw_p22 : lw_okq (⟨"TurningSumsModel", "classOf", "(I)I"⟩, 11) := ⟨⟨by decide +kernel, by decide +kernel⟩, List.mem_of_getElem? (i := 242) (by decide +kernel), List.mem_of_getElem? (i := 319) (by decide +kernel), List.mem_of_getElem? (i := 320) (by decide +kernel)⟩
theorem lw_p23 : lw_okq (⟨"TurningSumsModel", "empty", "()V"⟩, 11) := ⟨⟨by decide +kernel, by decide +kernel⟩, List.mem_of_getElem? (i := 242) (by decide +kernel), List.mem_of_getElem? (i := 331) (by decide +kernel), List.mem_of_getElem? (i := 332) (by decide +kernel)⟩
theorem lw_p24 : lw_okq (⟨"TurningSumsModel", "reduce", "()V"⟩, 11) := ⟨⟨by decide +kernel, by decide +kernel⟩, List.mem_of_getElem? (i := 242) (by decide +kernel), List.mem_of_getElem? (i := 335) (by decide +kernel), List.mem_of_getElem? (i := 336) (by decide +kernel)⟩
theorem lw_p25 : lw_okq (⟨"TurningSumsModel", "lay", "(I)I"⟩, 11) := ⟨⟨by decide +kernel, by decide +kernel⟩, List.mem_of_getElem? (i := 242) (by decide +kernel), List.mem_of_getElem? (i := 339) (by decide +kernel), List.mem_of_getElem? (i := 340) (by decide +kernel)⟩
theorem lw_p26 : lw_okq (⟨"TurningSumsModel", "times", "(I[JI)V"⟩, 11) := ⟨⟨by decide +kernel, by decide +kernel⟩, List.mem_of_getElem? (i := 242) (by decide +kernel), List.mem_of_getElem? (i := 356) (by decide +kernel), List.mem_of_getElem? (i := 357) (by decide +kernel)⟩
theorem lw_p27 : lw_okq (⟨"TurningSumsModel", "turnOver", "(II)V"⟩, 11) := ⟨⟨by decide +kernel, by decide +kernel⟩, List.mem_of_getElem? (i := 242) (by decide +kernel), List.mem_of_getElem? (i := 364) (by decide +kernel), List.mem_of_getElem? (i := 365) (by decide +kernel)⟩
theorem lw_p28 : lw_okq (⟨"TurningSumsModel", "power", "(I)I"⟩, 11) := ⟨⟨by decide +kernel, by decide +kernel⟩, List.mem_of_getElem? (i := 242) (by decide +kernel), List.mem_of_getElem? (i := 386) (by decide +kernel), List.mem_of_getElem? (i := 387) (by decide +kernel)⟩
theorem lw_p29 : lw_okq (⟨"TurningSumsModel", "isSet", "(I)Z"⟩, 11) := ⟨⟨by decide +kernel, by decide +kernel⟩, List.mem_of_getElem? (i := 242) (by decide +kernel), List.mem_of_getElem? (i := 400) (by decide +kernel), List.mem_of_getElem? (i := 401) (by decide +kernel)⟩
theorem lw_p30 : lw_okq (⟨"TurningSumsModel", "overOf", "(III)I"⟩, 11) := ⟨⟨by decide +kernel, by decide +kernel⟩, List.mem_of_getElem? (i := 242) (by decide +kernel), List.mem_of_getElem? (i := 407) (by decide +kernel), List.mem_of_getElem? (i := 408) (by decide +kernel)⟩
theorem lw_p31 : lw_okq (⟨"TurningSumsModel", "signOf", "(III)I"⟩, 11) := ⟨⟨by decide +kernel, by decide +kernel⟩, List.mem_of_getElem? (i := 242) (by decide +kernel), List.mem_of_getElem? (i := 411) (by decide +kernel), List.mem_of_getElem? (i := 412) (by decide +kernel)⟩
def lw_privs_2 : List (MethodName × Nat) := [(⟨"TurningSums", "differences", "(I)I"⟩, 12), (⟨"TurningSums", "classNumberBySums", "()I"⟩, 12), (⟨"TurningSums", "classNumberByForms", "()I"⟩, 12), (⟨"TurningSums", "isForm", "(II)Z"⟩, 12), (⟨"TurningSumsModel", "begin", "(I)V"⟩, 11), (⟨"TurningSumsModel", "setDegree", "(I)V"⟩, 11), (⟨"TurningSumsModel", "classOf", "(I)I"⟩, 11), (⟨"TurningSumsModel", "empty", "()V"⟩, 11), (⟨"TurningSumsModel", "reduce", "()V"⟩, 11), (⟨"TurningSumsModel", "lay", "(I)I"⟩, 11), (⟨"TurningSumsModel", "times", "(I[JI)V"⟩, 11), (⟨"TurningSumsModel", "turnOver", "(II)V"⟩, 11), (⟨"TurningSumsModel", "power", "(I)I"⟩, 11), (⟨"TurningSumsModel", "isSet", "(I)Z"⟩, 11), (⟨"TurningSumsModel", "overOf", "(III)I"⟩, 11), (⟨"TurningSumsModel", "signOf", "(III)I"⟩, 11)]
theorem lw_r2 : ∀ q ∈ lw_privs_2, lw_okq q := List.forall_mem_cons.mpr ⟨lw_p16, List.forall_mem_cons.mpr ⟨lw_p17, List.forall_mem_cons.mpr ⟨lw_p18, List.forall_mem_cons.mpr ⟨lw_p19, List.forall_mem_cons.mpr ⟨lw_p20, List.forall_mem_cons.mpr ⟨lw_p21, List.forall_mem_cons.mpr ⟨lw_p22, List.forall_mem_cons.mpr ⟨lw_p23, List.forall_mem_cons.mpr ⟨lw_p24, List.forall_mem_cons.mpr ⟨lw_p25, List.forall_mem_cons.mpr ⟨lw_p26, List.forall_mem_cons.mpr ⟨lw_p27, List.forall_mem_cons.mpr ⟨lw_p28, List.forall_mem_cons.mpr ⟨lw_p29, List.forall_mem_cons.mpr ⟨lw_p30, List.forall_mem_cons.mpr ⟨lw_p31, fun _ h => absurd h List.not_mem_nil⟩⟩⟩⟩⟩⟩⟩⟩⟩⟩⟩⟩⟩⟩⟩⟩
def lw_privs : List (MethodName × Nat) := lw_privs_1 ++ (lw_privs_2)
def lw_tbl : List Cond := k2_sels lw_privs ++ tables_1
theorem lw_privs_ok : ∀ q ∈ lw_privs, lw_okq q := by
  show ∀ q ∈ lw_privs_1 ++ (lw_privs_2), lw_okq q
  exact List.forall_mem_append.mpr ⟨lw_r1, lw_r2⟩
/-! arrays of arrays: the tables' word 'arrayOver' of an array type -/
def va_AOA (t : FieldType) (U : State) : Prop := (Cond.arrayOver (.array t)).before #[] U = true
theorem va_AOA.of {t : FieldType} {A : Array Value} {U : State} (h : (Cond.arrayOver (.array t)).before A U = true) : va_AOA t U := h
theorem va_AOA.use {t : FieldType} {A : Array Value} {U : State} (h : va_AOA t U) : (Cond.arrayOver (.array t)).before A U = true := h
/-! ===== BEGIN words of one list among another's, by their places ===== -/
theorem goodIn_r {big : List Cond} (ws : List Cond) (ps : List Nat) (hp : ws = ps.filterMap (fun i => big[i]?)) (h : ws.all goodWord = true) : GoodIn big ws := by
  intro w hw
  have h1 := List.all_eq_true.mp h w hw
  rw [hp] at hw
  obtain ⟨i, -, hi⟩ := List.mem_filterMap.mp hw
  have hm : w ∈ big := by first | exact List.mem_of_getElem? hi | exact List.getElem?_mem hi
  exact ⟨hm, good_of_word h1⟩
theorem goodIn_app {big a b : List Cond} (ha : GoodIn big a) (hb : GoodIn big b) : GoodIn big (a ++ b) := fun w h => (List.mem_append.mp h).elim (ha w) (hb w)
theorem goodIn_ca {big a b : List Cond} {c : Cond} (ha : GoodIn big (c :: a)) (hb : GoodIn big b) : GoodIn big (c :: (a ++ b)) := fun w h => (List.mem_cons.mp h).elim (fun e => ha w (List.mem_cons.mpr (Or.inl e))) (fun h => (List.mem_append.mp h).elim (fun h => ha w (List.mem_cons.mpr (Or.inr h))) (hb w))
theorem goodIn_sub {big ws : List Cond} (hm : ∀ w ∈ ws, w ∈ big) (h : ws.all goodWord = true) : GoodIn big ws := fun w hw => ⟨hm w hw, good_of_word (List.all_eq_true.mp h w hw)⟩
/-! ===== END ===== -/

/-! ===== BEGIN printed: names, fields, word lists, decode rows ===== -/
def RX0 : String := "TurningSums"
def TX0 : u_T := fun k => match k with
  | 0 => ("TurningSums", "indexOf", "[I", true)
  | 1 => ("TurningSums", "powerOf", "[I", true)
  | 2 => ("TurningSums", "signOf", "[I", true)
  | 3 => ("TurningSums", "timesOf", "[I", true)
  | 4 => ("TurningSums", "holds", "[[I", true)
  | 5 => ("TurningSums", "work", "[J", true)
  | 6 => ("TurningSums", "rowsOfClass", "[J", true)
  | 7 => ("TurningSums", "longerOfClass", "[J", true)
  | 8 => ("TurningSums", "p", "I", false)
  | 9 => ("TurningSums", "root", "I", false)
  | 10 => ("TurningSums", "d", "I", false)
  | _ => ("TurningSums", "phi", "I", false)
def tyX0 : Nat → FieldType := fun k => match k with
  | 0 => .array .int
  | 1 => .array .int
  | 2 => .array .int
  | 3 => .array .int
  | 4 => .array (.array .int)
  | 5 => .array .long
  | 6 => .array .long
  | 7 => .array .long
  | 8 => .int
  | 9 => .int
  | 10 => .int
  | _ => .int
abbrev wsX00 : List Cond := u_ws RX0 TX0 12
theorem nmX0 : ∀ a, a < 12 → ∀ b, b < 12 → a ≠ b → (TX0 a).2.1 ≠ (TX0 b).2.1 := by decide +kernel
theorem tyX0_ok : ∀ k, k < 12 → parseFieldDescriptor (TX0 k).2.2.1 = some (tyX0 k) := by decide +kernel
abbrev cX0_init : ByteArray := prog_1_method_1_code
def yX0_init : MethodName := ⟨RX0, "<init>", "()V"⟩
abbrev cX0_prime : ByteArray := prog_1_method_2_code
def yX0_prime : MethodName := ⟨RX0, "prime", "(I)I"⟩
abbrev cX0_degree : ByteArray := prog_1_method_3_code
def yX0_degree : MethodName := ⟨RX0, "degree", "(I)I"⟩
abbrev cX0_rest : ByteArray := prog_1_method_4_code
def yX0_rest : MethodName := ⟨RX0, "rest", "(II)I"⟩
abbrev cX0_meeting : ByteArray := prog_1_method_5_code
def yX0_meeting : MethodName := ⟨RX0, "meeting", "(II)I"⟩
abbrev cX0_sum : ByteArray := prog_1_method_6_code
def yX0_sum : MethodName := ⟨RX0, "sum", "(III)I"⟩
abbrev cX0_unit : ByteArray := prog_1_method_7_code
def yX0_unit : MethodName := ⟨RX0, "unit", "(III)I"⟩
abbrev cX0_join : ByteArray := prog_1_method_8_code
def yX0_join : MethodName := ⟨RX0, "join", "(IIII)I"⟩
abbrev cX0_turn : ByteArray := prog_1_method_9_code
def yX0_turn : MethodName := ⟨RX0, "turn", "(III)I"⟩
abbrev cX0_at : ByteArray := prog_1_method_10_code
def yX0_at : MethodName := ⟨RX0, "at", "(II)I"⟩
abbrev cX0_same : ByteArray := prog_1_method_11_code
def yX0_same : MethodName := ⟨RX0, "same", "(II)I"⟩
abbrev cX0_size : ByteArray := prog_1_method_12_code
def yX0_size : MethodName := ⟨RX0, "size", "(I)J"⟩
abbrev cX0_solutions : ByteArray := prog_1_method_13_code
def yX0_solutions : MethodName := ⟨RX0, "solutions", "(III)I"⟩
abbrev cX0_rows : ByteArray := prog_1_method_14_code
def yX0_rows : MethodName := ⟨RX0, "rows", "(I)J"⟩
abbrev cX0_over : ByteArray := prog_1_method_15_code
def yX0_over : MethodName := ⟨RX0, "over", "(III)I"⟩
abbrev cX0_peak : ByteArray := prog_1_method_16_code
def yX0_peak : MethodName := ⟨RX0, "peak", "(II)I"⟩
abbrev cX0_even : ByteArray := prog_1_method_17_code
def yX0_even : MethodName := ⟨RX0, "even", "(I)I"⟩
abbrev cX0_classes : ByteArray := prog_1_method_18_code
def yX0_classes : MethodName := ⟨RX0, "classes", "(I)I"⟩
abbrev cX0_count : ByteArray := prog_1_method_19_code
def yX0_count : MethodName := ⟨RX0, "count", "(I)I"⟩
abbrev cX0_setPrime : ByteArray := prog_1_method_20_code
def yX0_setPrime : MethodName := ⟨RX0, "setPrime", "(I)V"⟩
abbrev cX0_setDegree : ByteArray := prog_1_method_21_code
def yX0_setDegree : MethodName := ⟨RX0, "setDegree", "(I)V"⟩
abbrev cX0_isPrime : ByteArray := prog_1_method_22_code
def yX0_isPrime : MethodName := ⟨RX0, "isPrime", "(I)Z"⟩
abbrev cX0_leastRoot : ByteArray := prog_1_method_23_code
def yX0_leastRoot : MethodName := ⟨RX0, "leastRoot", "()I"⟩
abbrev cX0_hasAllPowers : ByteArray := prog_1_method_24_code
def yX0_hasAllPowers : MethodName := ⟨RX0, "hasAllPowers", "(I)Z"⟩
abbrev cX0_sharesDivisor : ByteArray := prog_1_method_25_code
def yX0_sharesDivisor : MethodName := ⟨RX0, "sharesDivisor", "(I)Z"⟩
abbrev cX0_isHold : ByteArray := prog_1_method_26_code
def yX0_isHold : MethodName := ⟨RX0, "isHold", "(I)Z"⟩
abbrev cX0_isClass : ByteArray := prog_1_method_27_code
def yX0_isClass : MethodName := ⟨RX0, "isClass", "(I)Z"⟩
abbrev cX0_isSet : ByteArray := prog_1_method_28_code
def yX0_isSet : MethodName := ⟨RX0, "isSet", "(I)Z"⟩
abbrev cX0_isSign : ByteArray := prog_1_method_29_code
def yX0_isSign : MethodName := ⟨RX0, "isSign", "(I)Z"⟩
abbrev cX0_classOf : ByteArray := prog_1_method_30_code
def yX0_classOf : MethodName := ⟨RX0, "classOf", "(I)I"⟩
abbrev cX0_add : ByteArray := prog_1_method_31_code
def yX0_add : MethodName := ⟨RX0, "add", "([I[II)V"⟩
abbrev cX0_multiply : ByteArray := prog_1_method_32_code
def yX0_multiply : MethodName := ⟨RX0, "multiply", "([I[II)V"⟩
abbrev cX0_reduce : ByteArray := prog_1_method_33_code
def yX0_reduce : MethodName := ⟨RX0, "reduce", "()V"⟩
abbrev cX0_store : ByteArray := prog_1_method_34_code
def yX0_store : MethodName := ⟨RX0, "store", "(I)I"⟩
abbrev cX0_likePower : ByteArray := prog_1_method_35_code
def yX0_likePower : MethodName := ⟨RX0, "likePower", "(I)I"⟩
abbrev cX0_lengthened : ByteArray := prog_1_method_36_code
def yX0_lengthened : MethodName := ⟨RX0, "lengthened", "(JI)J"⟩
abbrev cX0_fillSigns : ByteArray := prog_1_method_37_code
def yX0_fillSigns : MethodName := ⟨RX0, "fillSigns", "(II)V"⟩
abbrev cX0_agreement : ByteArray := prog_1_method_38_code
def yX0_agreement : MethodName := ⟨RX0, "agreement", "(I)I"⟩
abbrev cX0_differences : ByteArray := prog_1_method_39_code
def yX0_differences : MethodName := ⟨RX0, "differences", "(I)I"⟩
abbrev cX0_classNumberBySums : ByteArray := prog_1_method_40_code
def yX0_classNumberBySums : MethodName := ⟨RX0, "classNumberBySums", "()I"⟩
abbrev cX0_classNumberByForms : ByteArray := prog_1_method_41_code
def yX0_classNumberByForms : MethodName := ⟨RX0, "classNumberByForms", "()I"⟩
abbrev cX0_isForm : ByteArray := prog_1_method_42_code
def yX0_isForm : MethodName := ⟨RX0, "isForm", "(II)Z"⟩
def RX1 : String := "TurningSumsModel"
def TX1 : u_T := fun k => match k with
  | 0 => ("TurningSumsModel", "p", "I", false)
  | 1 => ("TurningSumsModel", "root", "I", false)
  | 2 => ("TurningSumsModel", "d", "I", false)
  | 3 => ("TurningSumsModel", "phi", "I", false)
  | 4 => ("TurningSumsModel", "index", "[I", true)
  | 5 => ("TurningSumsModel", "hold", "[J", true)
  | 6 => ("TurningSumsModel", "relation", "[I", true)
  | 7 => ("TurningSumsModel", "work", "[J", true)
  | 8 => ("TurningSumsModel", "turned", "[J", true)
  | 9 => ("TurningSumsModel", "ways", "[J", true)
  | _ => ("TurningSumsModel", "next", "[J", true)
def tyX1 : Nat → FieldType := fun k => match k with
  | 0 => .int
  | 1 => .int
  | 2 => .int
  | 3 => .int
  | 4 => .array .int
  | 5 => .array .long
  | 6 => .array .int
  | 7 => .array .long
  | 8 => .array .long
  | 9 => .array .long
  | _ => .array .long
abbrev wsX10 : List Cond := u_ws RX1 TX1 11
theorem nmX1 : ∀ a, a < 11 → ∀ b, b < 11 → a ≠ b → (TX1 a).2.1 ≠ (TX1 b).2.1 := by decide +kernel
theorem tyX1_ok : ∀ k, k < 11 → parseFieldDescriptor (TX1 k).2.2.1 = some (tyX1 k) := by decide +kernel
abbrev cX1_init : ByteArray := prog_3_method_1_code
def yX1_init : MethodName := ⟨RX1, "<init>", "()V"⟩
abbrev cX1_in : ByteArray := prog_3_method_2_code
def yX1_in : MethodName := ⟨RX1, "in", "(JJJ)Z"⟩
abbrev cX1_isHold : ByteArray := prog_3_method_3_code
def yX1_isHold : MethodName := ⟨RX1, "isHold", "(I)Z"⟩
abbrev cX1_rem : ByteArray := prog_3_method_4_code
def yX1_rem : MethodName := ⟨RX1, "rem", "(JI)I"⟩
abbrev cX1_isPrime : ByteArray := prog_3_method_5_code
def yX1_isPrime : MethodName := ⟨RX1, "isPrime", "(I)Z"⟩
abbrev cX1_begin : ByteArray := prog_3_method_6_code
def yX1_begin : MethodName := ⟨RX1, "begin", "(I)V"⟩
abbrev cX1_common : ByteArray := prog_3_method_7_code
def yX1_common : MethodName := ⟨RX1, "common", "(II)I"⟩
abbrev cX1_setDegree : ByteArray := prog_3_method_8_code
def yX1_setDegree : MethodName := ⟨RX1, "setDegree", "(I)V"⟩
abbrev cX1_prime : ByteArray := prog_3_method_9_code
def yX1_prime : MethodName := ⟨RX1, "prime", "(I)I"⟩
abbrev cX1_degree : ByteArray := prog_3_method_10_code
def yX1_degree : MethodName := ⟨RX1, "degree", "(I)I"⟩
abbrev cX1_rest : ByteArray := prog_3_method_11_code
def yX1_rest : MethodName := ⟨RX1, "rest", "(II)I"⟩
abbrev cX1_classOf : ByteArray := prog_3_method_12_code
def yX1_classOf : MethodName := ⟨RX1, "classOf", "(I)I"⟩
abbrev cX1_meeting : ByteArray := prog_3_method_13_code
def yX1_meeting : MethodName := ⟨RX1, "meeting", "(II)I"⟩
abbrev cX1_empty : ByteArray := prog_3_method_14_code
def yX1_empty : MethodName := ⟨RX1, "empty", "()V"⟩
abbrev cX1_reduce : ByteArray := prog_3_method_15_code
def yX1_reduce : MethodName := ⟨RX1, "reduce", "()V"⟩
abbrev cX1_lay : ByteArray := prog_3_method_16_code
def yX1_lay : MethodName := ⟨RX1, "lay", "(I)I"⟩
abbrev cX1_sum : ByteArray := prog_3_method_17_code
def yX1_sum : MethodName := ⟨RX1, "sum", "(III)I"⟩
abbrev cX1_unit : ByteArray := prog_3_method_18_code
def yX1_unit : MethodName := ⟨RX1, "unit", "(III)I"⟩
abbrev cX1_times : ByteArray := prog_3_method_19_code
def yX1_times : MethodName := ⟨RX1, "times", "(I[JI)V"⟩
abbrev cX1_join : ByteArray := prog_3_method_20_code
def yX1_join : MethodName := ⟨RX1, "join", "(IIII)I"⟩
abbrev cX1_turnOver : ByteArray := prog_3_method_21_code
def yX1_turnOver : MethodName := ⟨RX1, "turnOver", "(II)V"⟩
abbrev cX1_turn : ByteArray := prog_3_method_22_code
def yX1_turn : MethodName := ⟨RX1, "turn", "(III)I"⟩
abbrev cX1_at : ByteArray := prog_3_method_23_code
def yX1_at : MethodName := ⟨RX1, "at", "(II)I"⟩
abbrev cX1_same : ByteArray := prog_3_method_24_code
def yX1_same : MethodName := ⟨RX1, "same", "(II)I"⟩
abbrev cX1_size : ByteArray := prog_3_method_25_code
def yX1_size : MethodName := ⟨RX1, "size", "(I)J"⟩
abbrev cX1_power : ByteArray := prog_3_method_26_code
def yX1_power : MethodName := ⟨RX1, "power", "(I)I"⟩
abbrev cX1_solutions : ByteArray := prog_3_method_27_code
def yX1_solutions : MethodName := ⟨RX1, "solutions", "(III)I"⟩
abbrev cX1_rows : ByteArray := prog_3_method_28_code
def yX1_rows : MethodName := ⟨RX1, "rows", "(I)J"⟩
abbrev cX1_signOf : ByteArray := prog_3_method_29_code
def yX1_signOf : MethodName := ⟨RX1, "signOf", "(III)I"⟩
abbrev cX1_overOf : ByteArray := prog_3_method_30_code
def yX1_overOf : MethodName := ⟨RX1, "overOf", "(III)I"⟩
abbrev cX1_isSet : ByteArray := prog_3_method_31_code
def yX1_isSet : MethodName := ⟨RX1, "isSet", "(I)Z"⟩
abbrev cX1_isSign : ByteArray := prog_3_method_32_code
def yX1_isSign : MethodName := ⟨RX1, "isSign", "(I)Z"⟩
abbrev cX1_over : ByteArray := prog_3_method_33_code
def yX1_over : MethodName := ⟨RX1, "over", "(III)I"⟩
abbrev cX1_peak : ByteArray := prog_3_method_34_code
def yX1_peak : MethodName := ⟨RX1, "peak", "(II)I"⟩
abbrev cX1_even : ByteArray := prog_3_method_35_code
def yX1_even : MethodName := ⟨RX1, "even", "(I)I"⟩
abbrev cX1_classes : ByteArray := prog_3_method_36_code
def yX1_classes : MethodName := ⟨RX1, "classes", "(I)I"⟩
abbrev cX1_count : ByteArray := prog_3_method_37_code
def yX1_count : MethodName := ⟨RX1, "count", "(I)I"⟩
def RJ9 : String := "java/lang/Math"
def TJ9 : u_T := fun k => match k with
  | _ => ("", "", "", false)
def tyJ9 : Nat → FieldType := fun k => match k with
  | _ => .int
abbrev wsJ90 : List Cond := u_ws RJ9 TJ9 0
theorem nmJ9 : ∀ a, a < 0 → ∀ b, b < 0 → a ≠ b → (TJ9 a).2.1 ≠ (TJ9 b).2.1 := by decide +kernel
theorem tyJ9_ok : ∀ k, k < 0 → parseFieldDescriptor (TJ9 k).2.2.1 = some (tyJ9 k) := by decide +kernel
abbrev cJ9_floorMod_7cf53 : ByteArray := prog_4_method_50_code
def yJ9_floorMod_7cf53 : MethodName := ⟨RJ9, "floorMod", "(II)I"⟩
abbrev cJ9_abs_0f7a4 : ByteArray := prog_4_method_59_code
def yJ9_abs_0f7a4 : MethodName := ⟨RJ9, "abs", "(I)I"⟩
abbrev cJ9_max_7cf53 : ByteArray := prog_4_method_65_code
def yJ9_max_7cf53 : MethodName := ⟨RJ9, "max", "(II)I"⟩
def RJ10 : String := "java/lang/System"
def TJ10 : u_T := fun k => match k with
  | _ => ("", "", "", false)
def tyJ10 : Nat → FieldType := fun k => match k with
  | _ => .int
abbrev wsJ100 : List Cond := u_ws RJ10 TJ10 0
theorem nmJ10 : ∀ a, a < 0 → ∀ b, b < 0 → a ≠ b → (TJ10 a).2.1 ≠ (TJ10 b).2.1 := by decide +kernel
theorem tyJ10_ok : ∀ k, k < 0 → parseFieldDescriptor (TJ10 k).2.2.1 = some (tyJ10 k) := by decide +kernel
def RJ7 : String := "java/util/Arrays"
def TJ7 : u_T := fun k => match k with
  | _ => ("", "", "", false)
def tyJ7 : Nat → FieldType := fun k => match k with
  | _ => .int
abbrev wsJ70 : List Cond := u_ws RJ7 TJ7 0
theorem nmJ7 : ∀ a, a < 0 → ∀ b, b < 0 → a ≠ b → (TJ7 a).2.1 ≠ (TJ7 b).2.1 := by decide +kernel
theorem tyJ7_ok : ∀ k, k < 0 → parseFieldDescriptor (TJ7 k).2.2.1 = some (tyJ7 k) := by decide +kernel
abbrev cJ7_fill_d0a16 : ByteArray := prog_6_method_101_code
def yJ7_fill_d0a16 : MethodName := ⟨RJ7, "fill", "([JJ)V"⟩
abbrev cJ7_fill_53178 : ByteArray := prog_6_method_103_code
def yJ7_fill_53178 : MethodName := ⟨RJ7, "fill", "([II)V"⟩
def RL : String := "TurningSumsLaw"
abbrev cL_law : ByteArray := code
def yL_law : MethodName := ⟨RL, "law", "([I)Z"⟩
def wsX0_hasAllPowers : List Cond := .code yX0_hasAllPowers cX0_hasAllPowers 4 (some .boolean) :: ([.fieldLink RX0 49 "TurningSums" "p" "I"] ++ wsX00)
def wsX0_leastRoot : List Cond := .code yX0_leastRoot cX0_leastRoot 2 (some .int) :: ([.fieldLink RX0 49 "TurningSums" "p" "I", .methodLink RX0 152 yX0_hasAllPowers, .instanceMethod yX0_hasAllPowers, .selects RX0 yX0_hasAllPowers yX0_hasAllPowers, .initialized RX0, .code yX0_hasAllPowers cX0_hasAllPowers 4 (some .boolean)] ++ wsX00)
def wsX0_sharesDivisor : List Cond := .code yX0_sharesDivisor cX0_sharesDivisor 3 (some .boolean) :: ([.fieldLink RX0 74 "TurningSums" "d" "I"] ++ wsX00)
def wsJ7_fill_53178 : List Cond := .code yJ7_fill_53178 cJ7_fill_53178 4 none :: ([])
def wsX0_setDegree : List Cond := .code yX0_setDegree cX0_setDegree 3 none :: ([.fieldLink RX0 74 "TurningSums" "d" "I", .fieldLink RX0 55 "TurningSums" "phi" "I", .fieldLink RX0 24 "TurningSums" "holds" "[[I", .methodLink RX0 93 yX0_sharesDivisor, .instanceMethod yX0_sharesDivisor, .selects RX0 yX0_sharesDivisor yX0_sharesDivisor, .initialized RX0, .code yX0_sharesDivisor cX0_sharesDivisor 3 (some .boolean), .methodLink RX0 102 yJ7_fill_53178, .static yJ7_fill_53178, .initialized RJ7, .code yJ7_fill_53178 cJ7_fill_53178 4 none] ++ wsX00)
def wsX0_setPrime_r1 : List Cond := [Cond.fieldLink RX0 49 "TurningSums" "p" "I", Cond.fieldLink RX0 45 "TurningSums" "root" "I", Cond.fieldLink RX0 9 "TurningSums" "indexOf" "[I", Cond.fieldLink RX0 13 "TurningSums" "powerOf" "[I", Cond.methodLink RX0 149 yX0_leastRoot, Cond.instanceMethod yX0_leastRoot, Cond.selects RX0 yX0_leastRoot yX0_leastRoot, Cond.initialized RX0, Cond.code yX0_leastRoot cX0_leastRoot 2 (some .int), Cond.methodLink RX0 152 yX0_hasAllPowers, Cond.instanceMethod yX0_hasAllPowers, Cond.selects RX0 yX0_hasAllPowers yX0_hasAllPowers, Cond.code yX0_hasAllPowers cX0_hasAllPowers 4 (some .boolean), Cond.methodLink RX0 52 yX0_setDegree, Cond.instanceMethod yX0_setDegree, Cond.selects RX0 yX0_setDegree yX0_setDegree, Cond.code yX0_setDegree cX0_setDegree 3 none, Cond.fieldLink RX0 74 "TurningSums" "d" "I", Cond.fieldLink RX0 55 "TurningSums" "phi" "I", Cond.fieldLink RX0 24 "TurningSums" "holds" "[[I", Cond.methodLink RX0 93 yX0_sharesDivisor, Cond.instanceMethod yX0_sharesDivisor, Cond.selects RX0 yX0_sharesDivisor yX0_sharesDivisor, Cond.code yX0_sharesDivisor cX0_sharesDivisor 3 (some .boolean)]
def wsX0_setPrime_r2 : List Cond := [Cond.methodLink RX0 102 yJ7_fill_53178, Cond.static yJ7_fill_53178, Cond.initialized RJ7, Cond.code yJ7_fill_53178 cJ7_fill_53178 4 none]
def wsX0_setPrime : List Cond := .code yX0_setPrime cX0_setPrime 4 none :: ((wsX0_setPrime_r1 ++ wsX0_setPrime_r2) ++ wsX00)
def wsX0_init_r1 : List Cond := [Cond.methodLink RX0 1 objectInit, Cond.instanceMethod objectInit, Cond.code objectInit ⟨#[0xb1]⟩ 1 none, Cond.arrayClass .int, Cond.fieldLink RX0 9 "TurningSums" "indexOf" "[I", Cond.fieldLink RX0 13 "TurningSums" "powerOf" "[I", Cond.fieldLink RX0 16 "TurningSums" "signOf" "[I", Cond.fieldLink RX0 19 "TurningSums" "timesOf" "[I", Cond.classLink RX0 22 "[[I", Cond.fieldLink RX0 24 "TurningSums" "holds" "[[I", Cond.arrayClass .long, Cond.fieldLink RX0 27 "TurningSums" "work" "[J", Cond.fieldLink RX0 31 "TurningSums" "rowsOfClass" "[J", Cond.fieldLink RX0 34 "TurningSums" "longerOfClass" "[J", Cond.methodLink RX0 37 yX0_setPrime, Cond.instanceMethod yX0_setPrime, Cond.selects RX0 yX0_setPrime yX0_setPrime, Cond.initialized RX0, Cond.code yX0_setPrime cX0_setPrime 4 none, Cond.fieldLink RX0 49 "TurningSums" "p" "I", Cond.fieldLink RX0 45 "TurningSums" "root" "I", Cond.methodLink RX0 149 yX0_leastRoot, Cond.instanceMethod yX0_leastRoot, Cond.selects RX0 yX0_leastRoot yX0_leastRoot]
def wsX0_init_r2 : List Cond := [Cond.code yX0_leastRoot cX0_leastRoot 2 (some .int), Cond.methodLink RX0 152 yX0_hasAllPowers, Cond.instanceMethod yX0_hasAllPowers, Cond.selects RX0 yX0_hasAllPowers yX0_hasAllPowers, Cond.code yX0_hasAllPowers cX0_hasAllPowers 4 (some .boolean), Cond.methodLink RX0 52 yX0_setDegree, Cond.instanceMethod yX0_setDegree, Cond.selects RX0 yX0_setDegree yX0_setDegree, Cond.code yX0_setDegree cX0_setDegree 3 none, Cond.fieldLink RX0 74 "TurningSums" "d" "I", Cond.fieldLink RX0 55 "TurningSums" "phi" "I", Cond.methodLink RX0 93 yX0_sharesDivisor, Cond.instanceMethod yX0_sharesDivisor, Cond.selects RX0 yX0_sharesDivisor yX0_sharesDivisor, Cond.code yX0_sharesDivisor cX0_sharesDivisor 3 (some .boolean), Cond.methodLink RX0 102 yJ7_fill_53178, Cond.static yJ7_fill_53178, Cond.initialized RJ7, Cond.code yJ7_fill_53178 cJ7_fill_53178 4 none]
def wsX0_init : List Cond := .code yX0_init cX0_init 1 none :: ((wsX0_init_r1 ++ wsX0_init_r2) ++ wsX00)
def wsX0_isPrime : List Cond := .code yX0_isPrime cX0_isPrime 2 (some .boolean) :: ([])
def wsX0_prime_r1 : List Cond := [Cond.fieldLink RX0 45 "TurningSums" "root" "I", Cond.methodLink RX0 41 yX0_isPrime, Cond.static yX0_isPrime, Cond.initialized RX0, Cond.code yX0_isPrime cX0_isPrime 2 (some .boolean), Cond.methodLink RX0 37 yX0_setPrime, Cond.instanceMethod yX0_setPrime, Cond.selects RX0 yX0_setPrime yX0_setPrime, Cond.code yX0_setPrime cX0_setPrime 4 none, Cond.fieldLink RX0 49 "TurningSums" "p" "I", Cond.fieldLink RX0 9 "TurningSums" "indexOf" "[I", Cond.fieldLink RX0 13 "TurningSums" "powerOf" "[I", Cond.methodLink RX0 149 yX0_leastRoot, Cond.instanceMethod yX0_leastRoot, Cond.selects RX0 yX0_leastRoot yX0_leastRoot, Cond.code yX0_leastRoot cX0_leastRoot 2 (some .int), Cond.methodLink RX0 152 yX0_hasAllPowers, Cond.instanceMethod yX0_hasAllPowers, Cond.selects RX0 yX0_hasAllPowers yX0_hasAllPowers, Cond.code yX0_hasAllPowers cX0_hasAllPowers 4 (some .boolean), Cond.methodLink RX0 52 yX0_setDegree, Cond.instanceMethod yX0_setDegree, Cond.selects RX0 yX0_setDegree yX0_setDegree, Cond.code yX0_setDegree cX0_setDegree 3 none]
def wsX0_prime_r2 : List Cond := [Cond.fieldLink RX0 74 "TurningSums" "d" "I", Cond.fieldLink RX0 55 "TurningSums" "phi" "I", Cond.fieldLink RX0 24 "TurningSums" "holds" "[[I", Cond.methodLink RX0 93 yX0_sharesDivisor, Cond.instanceMethod yX0_sharesDivisor, Cond.selects RX0 yX0_sharesDivisor yX0_sharesDivisor, Cond.code yX0_sharesDivisor cX0_sharesDivisor 3 (some .boolean), Cond.methodLink RX0 102 yJ7_fill_53178, Cond.static yJ7_fill_53178, Cond.initialized RJ7, Cond.code yJ7_fill_53178 cJ7_fill_53178 4 none]
def wsX0_prime : List Cond := .code yX0_prime cX0_prime 2 (some .int) :: ((wsX0_prime_r1 ++ wsX0_prime_r2) ++ wsX00)
def wsX0_degree : List Cond := .code yX0_degree cX0_degree 2 (some .int) :: ([.fieldLink RX0 49 "TurningSums" "p" "I", .fieldLink RX0 55 "TurningSums" "phi" "I", .methodLink RX0 52 yX0_setDegree, .instanceMethod yX0_setDegree, .selects RX0 yX0_setDegree yX0_setDegree, .initialized RX0, .code yX0_setDegree cX0_setDegree 3 none, .fieldLink RX0 74 "TurningSums" "d" "I", .fieldLink RX0 24 "TurningSums" "holds" "[[I", .methodLink RX0 93 yX0_sharesDivisor, .instanceMethod yX0_sharesDivisor, .selects RX0 yX0_sharesDivisor yX0_sharesDivisor, .code yX0_sharesDivisor cX0_sharesDivisor 3 (some .boolean), .methodLink RX0 102 yJ7_fill_53178, .static yJ7_fill_53178, .initialized RJ7, .code yJ7_fill_53178 cJ7_fill_53178 4 none] ++ wsX00)
def wsJ9_floorMod_7cf53 : List Cond := .code yJ9_floorMod_7cf53 cJ9_floorMod_7cf53 3 (some .int) :: ([])
def wsX0_classOf : List Cond := .code yX0_classOf cX0_classOf 2 (some .int) :: ([.fieldLink RX0 9 "TurningSums" "indexOf" "[I", .fieldLink RX0 49 "TurningSums" "p" "I", .fieldLink RX0 74 "TurningSums" "d" "I"] ++ wsX00)
def wsX0_rest : List Cond := .code yX0_rest cX0_rest 4 (some .int) :: ([.fieldLink RX0 49 "TurningSums" "p" "I", .fieldLink RX0 9 "TurningSums" "indexOf" "[I", .methodLink RX0 58 yJ9_floorMod_7cf53, .static yJ9_floorMod_7cf53, .initialized RJ9, .code yJ9_floorMod_7cf53 cJ9_floorMod_7cf53 3 (some .int), .methodLink RX0 64 yX0_classOf, .instanceMethod yX0_classOf, .selects RX0 yX0_classOf yX0_classOf, .initialized RX0, .code yX0_classOf cX0_classOf 2 (some .int), .fieldLink RX0 74 "TurningSums" "d" "I"] ++ wsX00)
def wsX0_isClass : List Cond := .code yX0_isClass cX0_isClass 2 (some .boolean) :: ([.fieldLink RX0 74 "TurningSums" "d" "I"] ++ wsX00)
def wsX0_meeting : List Cond := .code yX0_meeting cX0_meeting 5 (some .int) :: ([.fieldLink RX0 49 "TurningSums" "p" "I", .methodLink RX0 68 yX0_isClass, .instanceMethod yX0_isClass, .selects RX0 yX0_isClass yX0_isClass, .initialized RX0, .code yX0_isClass cX0_isClass 2 (some .boolean), .fieldLink RX0 74 "TurningSums" "d" "I", .methodLink RX0 64 yX0_classOf, .instanceMethod yX0_classOf, .selects RX0 yX0_classOf yX0_classOf, .code yX0_classOf cX0_classOf 2 (some .int), .fieldLink RX0 9 "TurningSums" "indexOf" "[I"] ++ wsX00)
def wsX0_isHold : List Cond := .code yX0_isHold cX0_isHold 1 (some .boolean) :: ([])
def wsJ7_fill_d0a16 : List Cond := .code yJ7_fill_d0a16 cJ7_fill_d0a16 5 none :: ([])
def wsX0_reduce : List Cond := .code yX0_reduce cX0_reduce 3 none :: ([.fieldLink RX0 74 "TurningSums" "d" "I", .fieldLink RX0 55 "TurningSums" "phi" "I", .fieldLink RX0 27 "TurningSums" "work" "[J", .fieldLink RX0 155 "TurningSums" "RELATIONS" "[I"] ++ wsX00)
def wsX0_store : List Cond := .code yX0_store cX0_store 3 (some .int) :: ([.fieldLink RX0 55 "TurningSums" "phi" "I", .fieldLink RX0 27 "TurningSums" "work" "[J", .constantLong RX0 158 (-100000000), .constantLong RX0 160 (100000000), .fieldLink RX0 24 "TurningSums" "holds" "[[I", .methodLink RX0 99 yX0_reduce, .instanceMethod yX0_reduce, .selects RX0 yX0_reduce yX0_reduce, .initialized RX0, .code yX0_reduce cX0_reduce 3 none, .fieldLink RX0 74 "TurningSums" "d" "I", .fieldLink RX0 155 "TurningSums" "RELATIONS" "[I"] ++ wsX00)
def wsX0_sum_r1 : List Cond := [Cond.fieldLink RX0 74 "TurningSums" "d" "I", Cond.fieldLink RX0 27 "TurningSums" "work" "[J", Cond.fieldLink RX0 49 "TurningSums" "p" "I", Cond.methodLink RX0 71 yX0_isHold, Cond.static yX0_isHold, Cond.initialized RX0, Cond.code yX0_isHold cX0_isHold 1 (some .boolean), Cond.methodLink RX0 58 yJ9_floorMod_7cf53, Cond.static yJ9_floorMod_7cf53, Cond.initialized RJ9, Cond.code yJ9_floorMod_7cf53 cJ9_floorMod_7cf53 3 (some .int), Cond.methodLink RX0 77 yJ7_fill_d0a16, Cond.static yJ7_fill_d0a16, Cond.initialized RJ7, Cond.code yJ7_fill_d0a16 cJ7_fill_d0a16 5 none, Cond.methodLink RX0 64 yX0_classOf, Cond.instanceMethod yX0_classOf, Cond.selects RX0 yX0_classOf yX0_classOf, Cond.code yX0_classOf cX0_classOf 2 (some .int), Cond.fieldLink RX0 9 "TurningSums" "indexOf" "[I", Cond.methodLink RX0 83 yX0_store, Cond.instanceMethod yX0_store, Cond.selects RX0 yX0_store yX0_store, Cond.code yX0_store cX0_store 3 (some .int)]
def wsX0_sum_r2 : List Cond := [Cond.fieldLink RX0 55 "TurningSums" "phi" "I", Cond.constantLong RX0 158 (-100000000), Cond.constantLong RX0 160 (100000000), Cond.fieldLink RX0 24 "TurningSums" "holds" "[[I", Cond.methodLink RX0 99 yX0_reduce, Cond.instanceMethod yX0_reduce, Cond.selects RX0 yX0_reduce yX0_reduce, Cond.code yX0_reduce cX0_reduce 3 none, Cond.fieldLink RX0 155 "TurningSums" "RELATIONS" "[I"]
def wsX0_sum : List Cond := .code yX0_sum cX0_sum 7 (some .int) :: ((wsX0_sum_r1 ++ wsX0_sum_r2) ++ wsX00)
def wsX0_unit_r1 : List Cond := [Cond.fieldLink RX0 27 "TurningSums" "work" "[J", Cond.fieldLink RX0 74 "TurningSums" "d" "I", Cond.methodLink RX0 71 yX0_isHold, Cond.static yX0_isHold, Cond.initialized RX0, Cond.code yX0_isHold cX0_isHold 1 (some .boolean), Cond.methodLink RX0 77 yJ7_fill_d0a16, Cond.static yJ7_fill_d0a16, Cond.initialized RJ7, Cond.code yJ7_fill_d0a16 cJ7_fill_d0a16 5 none, Cond.methodLink RX0 58 yJ9_floorMod_7cf53, Cond.static yJ9_floorMod_7cf53, Cond.initialized RJ9, Cond.code yJ9_floorMod_7cf53 cJ9_floorMod_7cf53 3 (some .int), Cond.methodLink RX0 83 yX0_store, Cond.instanceMethod yX0_store, Cond.selects RX0 yX0_store yX0_store, Cond.code yX0_store cX0_store 3 (some .int), Cond.fieldLink RX0 55 "TurningSums" "phi" "I", Cond.constantLong RX0 158 (-100000000), Cond.constantLong RX0 160 (100000000), Cond.fieldLink RX0 24 "TurningSums" "holds" "[[I", Cond.methodLink RX0 99 yX0_reduce, Cond.instanceMethod yX0_reduce]
def wsX0_unit_r2 : List Cond := [Cond.selects RX0 yX0_reduce yX0_reduce, Cond.code yX0_reduce cX0_reduce 3 none, Cond.fieldLink RX0 155 "TurningSums" "RELATIONS" "[I"]
def wsX0_unit : List Cond := .code yX0_unit cX0_unit 4 (some .int) :: ((wsX0_unit_r1 ++ wsX0_unit_r2) ++ wsX00)
def wsX0_multiply : List Cond := .code yX0_multiply cX0_multiply 6 none :: ([.fieldLink RX0 27 "TurningSums" "work" "[J", .fieldLink RX0 55 "TurningSums" "phi" "I", .fieldLink RX0 74 "TurningSums" "d" "I", .methodLink RX0 77 yJ7_fill_d0a16, .static yJ7_fill_d0a16, .initialized RJ7, .code yJ7_fill_d0a16 cJ7_fill_d0a16 5 none] ++ wsX00)
def wsX0_add : List Cond := .code yX0_add cX0_add 5 none :: ([.fieldLink RX0 27 "TurningSums" "work" "[J", .fieldLink RX0 55 "TurningSums" "phi" "I", .methodLink RX0 77 yJ7_fill_d0a16, .static yJ7_fill_d0a16, .initialized RJ7, .code yJ7_fill_d0a16 cJ7_fill_d0a16 5 none] ++ wsX00)
def wsX0_join_r1 : List Cond := [Cond.fieldLink RX0 24 "TurningSums" "holds" "[[I", Cond.methodLink RX0 71 yX0_isHold, Cond.static yX0_isHold, Cond.initialized RX0, Cond.code yX0_isHold cX0_isHold 1 (some .boolean), Cond.methodLink RX0 86 yX0_multiply, Cond.instanceMethod yX0_multiply, Cond.selects RX0 yX0_multiply yX0_multiply, Cond.code yX0_multiply cX0_multiply 6 none, Cond.fieldLink RX0 27 "TurningSums" "work" "[J", Cond.fieldLink RX0 55 "TurningSums" "phi" "I", Cond.fieldLink RX0 74 "TurningSums" "d" "I", Cond.methodLink RX0 77 yJ7_fill_d0a16, Cond.static yJ7_fill_d0a16, Cond.initialized RJ7, Cond.code yJ7_fill_d0a16 cJ7_fill_d0a16 5 none, Cond.methodLink RX0 90 yX0_add, Cond.instanceMethod yX0_add, Cond.selects RX0 yX0_add yX0_add, Cond.code yX0_add cX0_add 5 none, Cond.methodLink RX0 83 yX0_store, Cond.instanceMethod yX0_store, Cond.selects RX0 yX0_store yX0_store, Cond.code yX0_store cX0_store 3 (some .int)]
def wsX0_join_r2 : List Cond := [Cond.constantLong RX0 158 (-100000000), Cond.constantLong RX0 160 (100000000), Cond.methodLink RX0 99 yX0_reduce, Cond.instanceMethod yX0_reduce, Cond.selects RX0 yX0_reduce yX0_reduce, Cond.code yX0_reduce cX0_reduce 3 none, Cond.fieldLink RX0 155 "TurningSums" "RELATIONS" "[I"]
def wsX0_join : List Cond := .code yX0_join cX0_join 5 (some .int) :: ((wsX0_join_r1 ++ wsX0_join_r2) ++ wsX00)
def wsX0_turn_r1 : List Cond := [Cond.fieldLink RX0 74 "TurningSums" "d" "I", Cond.fieldLink RX0 27 "TurningSums" "work" "[J", Cond.fieldLink RX0 55 "TurningSums" "phi" "I", Cond.fieldLink RX0 24 "TurningSums" "holds" "[[I", Cond.methodLink RX0 71 yX0_isHold, Cond.static yX0_isHold, Cond.initialized RX0, Cond.code yX0_isHold cX0_isHold 1 (some .boolean), Cond.methodLink RX0 93 yX0_sharesDivisor, Cond.instanceMethod yX0_sharesDivisor, Cond.selects RX0 yX0_sharesDivisor yX0_sharesDivisor, Cond.code yX0_sharesDivisor cX0_sharesDivisor 3 (some .boolean), Cond.methodLink RX0 58 yJ9_floorMod_7cf53, Cond.static yJ9_floorMod_7cf53, Cond.initialized RJ9, Cond.code yJ9_floorMod_7cf53 cJ9_floorMod_7cf53 3 (some .int), Cond.methodLink RX0 77 yJ7_fill_d0a16, Cond.static yJ7_fill_d0a16, Cond.initialized RJ7, Cond.code yJ7_fill_d0a16 cJ7_fill_d0a16 5 none, Cond.methodLink RX0 83 yX0_store, Cond.instanceMethod yX0_store, Cond.selects RX0 yX0_store yX0_store, Cond.code yX0_store cX0_store 3 (some .int)]
def wsX0_turn_r2 : List Cond := [Cond.constantLong RX0 158 (-100000000), Cond.constantLong RX0 160 (100000000), Cond.methodLink RX0 99 yX0_reduce, Cond.instanceMethod yX0_reduce, Cond.selects RX0 yX0_reduce yX0_reduce, Cond.code yX0_reduce cX0_reduce 3 none, Cond.fieldLink RX0 155 "TurningSums" "RELATIONS" "[I"]
def wsX0_turn : List Cond := .code yX0_turn cX0_turn 6 (some .int) :: ((wsX0_turn_r1 ++ wsX0_turn_r2) ++ wsX00)
def wsX0_at : List Cond := .code yX0_at cX0_at 3 (some .int) :: ([.fieldLink RX0 55 "TurningSums" "phi" "I", .constant RX0 96 (-2147483648), .fieldLink RX0 24 "TurningSums" "holds" "[[I", .methodLink RX0 71 yX0_isHold, .static yX0_isHold, .initialized RX0, .code yX0_isHold cX0_isHold 1 (some .boolean)] ++ wsX00)
def wsX0_same : List Cond := .code yX0_same cX0_same 4 (some .int) :: ([.fieldLink RX0 55 "TurningSums" "phi" "I", .fieldLink RX0 24 "TurningSums" "holds" "[[I", .methodLink RX0 71 yX0_isHold, .static yX0_isHold, .initialized RX0, .code yX0_isHold cX0_isHold 1 (some .boolean)] ++ wsX00)
def wsX0_size : List Cond := .code yX0_size cX0_size 3 (some .long) :: ([.constantLong RX0 97 (-9223372036854775808), .fieldLink RX0 24 "TurningSums" "holds" "[[I", .fieldLink RX0 74 "TurningSums" "d" "I", .fieldLink RX0 55 "TurningSums" "phi" "I", .fieldLink RX0 27 "TurningSums" "work" "[J", .methodLink RX0 71 yX0_isHold, .static yX0_isHold, .initialized RX0, .code yX0_isHold cX0_isHold 1 (some .boolean), .methodLink RX0 86 yX0_multiply, .instanceMethod yX0_multiply, .selects RX0 yX0_multiply yX0_multiply, .code yX0_multiply cX0_multiply 6 none, .methodLink RX0 77 yJ7_fill_d0a16, .static yJ7_fill_d0a16, .initialized RJ7, .code yJ7_fill_d0a16 cJ7_fill_d0a16 5 none, .methodLink RX0 99 yX0_reduce, .instanceMethod yX0_reduce, .selects RX0 yX0_reduce yX0_reduce, .code yX0_reduce cX0_reduce 3 none, .fieldLink RX0 155 "TurningSums" "RELATIONS" "[I"] ++ wsX00)
def wsX0_likePower : List Cond := .code yX0_likePower cX0_likePower 2 (some .int) :: ([.fieldLink RX0 13 "TurningSums" "powerOf" "[I", .fieldLink RX0 9 "TurningSums" "indexOf" "[I", .fieldLink RX0 74 "TurningSums" "d" "I", .fieldLink RX0 49 "TurningSums" "p" "I"] ++ wsX00)
def wsX0_solutions : List Cond := .code yX0_solutions cX0_solutions 9 (some .int) :: ([.fieldLink RX0 49 "TurningSums" "p" "I", .fieldLink RX0 19 "TurningSums" "timesOf" "[I", .methodLink RX0 58 yJ9_floorMod_7cf53, .static yJ9_floorMod_7cf53, .initialized RJ9, .code yJ9_floorMod_7cf53 cJ9_floorMod_7cf53 3 (some .int), .methodLink RX0 102 yJ7_fill_53178, .static yJ7_fill_53178, .initialized RJ7, .code yJ7_fill_53178 cJ7_fill_53178 4 none, .methodLink RX0 105 yX0_likePower, .instanceMethod yX0_likePower, .selects RX0 yX0_likePower yX0_likePower, .initialized RX0, .code yX0_likePower cX0_likePower 2 (some .int), .fieldLink RX0 13 "TurningSums" "powerOf" "[I", .fieldLink RX0 9 "TurningSums" "indexOf" "[I", .fieldLink RX0 74 "TurningSums" "d" "I"] ++ wsX00)
def wsX0_lengthened : List Cond := .code yX0_lengthened cX0_lengthened 8 (some .long) :: ([.fieldLink RX0 49 "TurningSums" "p" "I", .fieldLink RX0 13 "TurningSums" "powerOf" "[I", .fieldLink RX0 31 "TurningSums" "rowsOfClass" "[J", .fieldLink RX0 74 "TurningSums" "d" "I", .methodLink RX0 64 yX0_classOf, .instanceMethod yX0_classOf, .selects RX0 yX0_classOf yX0_classOf, .initialized RX0, .code yX0_classOf cX0_classOf 2 (some .int), .fieldLink RX0 9 "TurningSums" "indexOf" "[I"] ++ wsX00)
def wsX0_rows : List Cond := .code yX0_rows cX0_rows 6 (some .long) :: ([.constantLong RX0 108 (-3), .fieldLink RX0 31 "TurningSums" "rowsOfClass" "[J", .fieldLink RX0 74 "TurningSums" "d" "I", .fieldLink RX0 34 "TurningSums" "longerOfClass" "[J", .fieldLink RX0 13 "TurningSums" "powerOf" "[I", .methodLink RX0 114 arraycopyName, .native arraycopyName, .static arraycopyName, .initialized "java/lang/System", .methodLink RX0 77 yJ7_fill_d0a16, .static yJ7_fill_d0a16, .initialized RJ7, .code yJ7_fill_d0a16 cJ7_fill_d0a16 5 none, .methodLink RX0 110 yX0_lengthened, .instanceMethod yX0_lengthened, .selects RX0 yX0_lengthened yX0_lengthened, .initialized RX0, .code yX0_lengthened cX0_lengthened 8 (some .long), .fieldLink RX0 49 "TurningSums" "p" "I", .methodLink RX0 64 yX0_classOf, .instanceMethod yX0_classOf, .selects RX0 yX0_classOf yX0_classOf, .code yX0_classOf cX0_classOf 2 (some .int), .fieldLink RX0 9 "TurningSums" "indexOf" "[I"] ++ wsX00)
def wsX0_isSet : List Cond := .code yX0_isSet cX0_isSet 2 (some .boolean) :: ([.fieldLink RX0 74 "TurningSums" "d" "I"] ++ wsX00)
def wsX0_isSign : List Cond := .code yX0_isSign cX0_isSign 1 (some .boolean) :: ([])
def wsX0_fillSigns : List Cond := .code yX0_fillSigns cX0_fillSigns 4 none :: ([.fieldLink RX0 16 "TurningSums" "signOf" "[I", .fieldLink RX0 49 "TurningSums" "p" "I", .methodLink RX0 64 yX0_classOf, .instanceMethod yX0_classOf, .selects RX0 yX0_classOf yX0_classOf, .initialized RX0, .code yX0_classOf cX0_classOf 2 (some .int), .fieldLink RX0 9 "TurningSums" "indexOf" "[I", .fieldLink RX0 74 "TurningSums" "d" "I"] ++ wsX00)
def wsX0_agreement : List Cond := .code yX0_agreement cX0_agreement 4 (some .int) :: ([.fieldLink RX0 49 "TurningSums" "p" "I", .fieldLink RX0 16 "TurningSums" "signOf" "[I"] ++ wsX00)
def wsX0_over_r1 : List Cond := [Cond.constant RX0 96 (-2147483648), Cond.fieldLink RX0 49 "TurningSums" "p" "I", Cond.methodLink RX0 120 yX0_isSet, Cond.instanceMethod yX0_isSet, Cond.selects RX0 yX0_isSet yX0_isSet, Cond.initialized RX0, Cond.code yX0_isSet cX0_isSet 2 (some .boolean), Cond.fieldLink RX0 74 "TurningSums" "d" "I", Cond.methodLink RX0 123 yX0_isSign, Cond.static yX0_isSign, Cond.code yX0_isSign cX0_isSign 1 (some .boolean), Cond.methodLink RX0 126 yX0_fillSigns, Cond.instanceMethod yX0_fillSigns, Cond.selects RX0 yX0_fillSigns yX0_fillSigns, Cond.code yX0_fillSigns cX0_fillSigns 4 none, Cond.fieldLink RX0 16 "TurningSums" "signOf" "[I", Cond.methodLink RX0 64 yX0_classOf, Cond.instanceMethod yX0_classOf, Cond.selects RX0 yX0_classOf yX0_classOf, Cond.code yX0_classOf cX0_classOf 2 (some .int), Cond.fieldLink RX0 9 "TurningSums" "indexOf" "[I", Cond.methodLink RX0 58 yJ9_floorMod_7cf53, Cond.static yJ9_floorMod_7cf53, Cond.initialized RJ9]
def wsX0_over_r2 : List Cond := [Cond.code yJ9_floorMod_7cf53 cJ9_floorMod_7cf53 3 (some .int), Cond.methodLink RX0 130 yX0_agreement, Cond.instanceMethod yX0_agreement, Cond.selects RX0 yX0_agreement yX0_agreement, Cond.code yX0_agreement cX0_agreement 4 (some .int)]
def wsX0_over : List Cond := .code yX0_over cX0_over 4 (some .int) :: ((wsX0_over_r1 ++ wsX0_over_r2) ++ wsX00)
def wsX0_peak_r1 : List Cond := [Cond.fieldLink RX0 74 "TurningSums" "d" "I", Cond.fieldLink RX0 13 "TurningSums" "powerOf" "[I", Cond.methodLink RX0 133 Lib.Math.abs.name, Cond.static Lib.Math.abs.name, Cond.initialized "java/lang/Math", Cond.code Lib.Math.abs.name Lib.Math.abs.code 1 (some .int), Cond.methodLink RX0 136 Lib.Math.max.name, Cond.static Lib.Math.max.name, Cond.code Lib.Math.max.name Lib.Math.max.code 2 (some .int), Cond.methodLink RX0 120 yX0_isSet, Cond.instanceMethod yX0_isSet, Cond.selects RX0 yX0_isSet yX0_isSet, Cond.initialized RX0, Cond.code yX0_isSet cX0_isSet 2 (some .boolean), Cond.methodLink RX0 123 yX0_isSign, Cond.static yX0_isSign, Cond.code yX0_isSign cX0_isSign 1 (some .boolean), Cond.methodLink RX0 126 yX0_fillSigns, Cond.instanceMethod yX0_fillSigns, Cond.selects RX0 yX0_fillSigns yX0_fillSigns, Cond.code yX0_fillSigns cX0_fillSigns 4 none, Cond.fieldLink RX0 16 "TurningSums" "signOf" "[I", Cond.fieldLink RX0 49 "TurningSums" "p" "I", Cond.methodLink RX0 64 yX0_classOf]
def wsX0_peak_r2 : List Cond := [Cond.instanceMethod yX0_classOf, Cond.selects RX0 yX0_classOf yX0_classOf, Cond.code yX0_classOf cX0_classOf 2 (some .int), Cond.fieldLink RX0 9 "TurningSums" "indexOf" "[I", Cond.methodLink RX0 130 yX0_agreement, Cond.instanceMethod yX0_agreement, Cond.selects RX0 yX0_agreement yX0_agreement, Cond.code yX0_agreement cX0_agreement 4 (some .int)]
def wsX0_peak : List Cond := .code yX0_peak cX0_peak 5 (some .int) :: ((wsX0_peak_r1 ++ wsX0_peak_r2) ++ wsX00)
def wsX0_differences : List Cond := .code yX0_differences cX0_differences 4 (some .int) :: ([.fieldLink RX0 49 "TurningSums" "p" "I", .fieldLink RX0 16 "TurningSums" "signOf" "[I"] ++ wsX00)
def wsX0_even : List Cond := .code yX0_even cX0_even 4 (some .int) :: ([.fieldLink RX0 13 "TurningSums" "powerOf" "[I", .fieldLink RX0 74 "TurningSums" "d" "I", .methodLink RX0 120 yX0_isSet, .instanceMethod yX0_isSet, .selects RX0 yX0_isSet yX0_isSet, .initialized RX0, .code yX0_isSet cX0_isSet 2 (some .boolean), .methodLink RX0 126 yX0_fillSigns, .instanceMethod yX0_fillSigns, .selects RX0 yX0_fillSigns yX0_fillSigns, .code yX0_fillSigns cX0_fillSigns 4 none, .fieldLink RX0 16 "TurningSums" "signOf" "[I", .fieldLink RX0 49 "TurningSums" "p" "I", .methodLink RX0 64 yX0_classOf, .instanceMethod yX0_classOf, .selects RX0 yX0_classOf yX0_classOf, .code yX0_classOf cX0_classOf 2 (some .int), .fieldLink RX0 9 "TurningSums" "indexOf" "[I", .methodLink RX0 139 yX0_differences, .instanceMethod yX0_differences, .selects RX0 yX0_differences yX0_differences, .code yX0_differences cX0_differences 4 (some .int)] ++ wsX00)
def wsX0_classNumberBySums : List Cond := .code yX0_classNumberBySums cX0_classNumberBySums 3 (some .int) :: ([.fieldLink RX0 49 "TurningSums" "p" "I", .fieldLink RX0 9 "TurningSums" "indexOf" "[I"] ++ wsX00)
def wsX0_isForm : List Cond := .code yX0_isForm cX0_isForm 6 (some .boolean) :: ([.fieldLink RX0 49 "TurningSums" "p" "I"] ++ wsX00)
def wsX0_classNumberByForms : List Cond := .code yX0_classNumberByForms cX0_classNumberByForms 4 (some .int) :: ([.fieldLink RX0 49 "TurningSums" "p" "I", .methodLink RX0 162 yX0_isForm, .instanceMethod yX0_isForm, .selects RX0 yX0_isForm yX0_isForm, .initialized RX0, .code yX0_isForm cX0_isForm 6 (some .boolean)] ++ wsX00)
def wsX0_classes : List Cond := .code yX0_classes cX0_classes 2 (some .int) :: ([.fieldLink RX0 49 "TurningSums" "p" "I", .methodLink RX0 142 yX0_classNumberBySums, .instanceMethod yX0_classNumberBySums, .selects RX0 yX0_classNumberBySums yX0_classNumberBySums, .initialized RX0, .code yX0_classNumberBySums cX0_classNumberBySums 3 (some .int), .fieldLink RX0 9 "TurningSums" "indexOf" "[I", .methodLink RX0 146 yX0_classNumberByForms, .instanceMethod yX0_classNumberByForms, .selects RX0 yX0_classNumberByForms yX0_classNumberByForms, .code yX0_classNumberByForms cX0_classNumberByForms 4 (some .int), .methodLink RX0 162 yX0_isForm, .instanceMethod yX0_isForm, .selects RX0 yX0_isForm yX0_isForm, .code yX0_isForm cX0_isForm 6 (some .boolean)] ++ wsX00)
def wsX0_count : List Cond := .code yX0_count cX0_count 2 (some .int) :: ([.fieldLink RX0 49 "TurningSums" "p" "I", .fieldLink RX0 45 "TurningSums" "root" "I", .fieldLink RX0 74 "TurningSums" "d" "I", .fieldLink RX0 55 "TurningSums" "phi" "I"] ++ wsX00)
def wsX1_common : List Cond := .code yX1_common cX1_common 5 (some .int) :: ([])
def wsX1_setDegree : List Cond := .code yX1_setDegree cX1_setDegree 3 none :: ([.fieldLink RX1 52 "TurningSumsModel" "d" "I", .fieldLink RX1 55 "TurningSumsModel" "phi" "I", .fieldLink RX1 13 "TurningSumsModel" "hold" "[J", .fieldLink RX1 17 "TurningSumsModel" "relation" "[I", .methodLink RX1 58 yX1_common, .static yX1_common, .initialized RX1, .code yX1_common cX1_common 5 (some .int)] ++ wsX10)
def wsX1_begin : List Cond := .code yX1_begin cX1_begin 4 none :: ([.fieldLink RX1 42 "TurningSumsModel" "p" "I", .fieldLink RX1 46 "TurningSumsModel" "root" "I", .fieldLink RX1 7 "TurningSumsModel" "index" "[I", .methodLink RX1 49 yX1_setDegree, .instanceMethod yX1_setDegree, .selects RX1 yX1_setDegree yX1_setDegree, .initialized RX1, .code yX1_setDegree cX1_setDegree 3 none, .fieldLink RX1 52 "TurningSumsModel" "d" "I", .fieldLink RX1 55 "TurningSumsModel" "phi" "I", .fieldLink RX1 13 "TurningSumsModel" "hold" "[J", .fieldLink RX1 17 "TurningSumsModel" "relation" "[I", .methodLink RX1 58 yX1_common, .static yX1_common, .code yX1_common cX1_common 5 (some .int)] ++ wsX10)
def wsX1_init_r1 : List Cond := [Cond.methodLink RX1 1 objectInit, Cond.instanceMethod objectInit, Cond.code objectInit ⟨#[0xb1]⟩ 1 none, Cond.arrayClass .int, Cond.fieldLink RX1 7 "TurningSumsModel" "index" "[I", Cond.arrayClass .long, Cond.fieldLink RX1 13 "TurningSumsModel" "hold" "[J", Cond.fieldLink RX1 17 "TurningSumsModel" "relation" "[I", Cond.fieldLink RX1 20 "TurningSumsModel" "work" "[J", Cond.fieldLink RX1 23 "TurningSumsModel" "turned" "[J", Cond.fieldLink RX1 26 "TurningSumsModel" "ways" "[J", Cond.fieldLink RX1 29 "TurningSumsModel" "next" "[J", Cond.methodLink RX1 32 yX1_begin, Cond.instanceMethod yX1_begin, Cond.selects RX1 yX1_begin yX1_begin, Cond.initialized RX1, Cond.code yX1_begin cX1_begin 4 none, Cond.fieldLink RX1 42 "TurningSumsModel" "p" "I", Cond.fieldLink RX1 46 "TurningSumsModel" "root" "I", Cond.methodLink RX1 49 yX1_setDegree, Cond.instanceMethod yX1_setDegree, Cond.selects RX1 yX1_setDegree yX1_setDegree, Cond.code yX1_setDegree cX1_setDegree 3 none, Cond.fieldLink RX1 52 "TurningSumsModel" "d" "I"]
def wsX1_init_r2 : List Cond := [Cond.fieldLink RX1 55 "TurningSumsModel" "phi" "I", Cond.methodLink RX1 58 yX1_common, Cond.static yX1_common, Cond.code yX1_common cX1_common 5 (some .int)]
def wsX1_init : List Cond := .code yX1_init cX1_init 1 none :: ((wsX1_init_r1 ++ wsX1_init_r2) ++ wsX10)
def wsX1_in : List Cond := .code yX1_in cX1_in 6 (some .boolean) :: ([])
def wsX1_isHold : List Cond := .code yX1_isHold cX1_isHold 1 (some .boolean) :: ([.constantLong RX1 36 (5), .methodLink RX1 38 yX1_in, .static yX1_in, .initialized RX1, .code yX1_in cX1_in 6 (some .boolean)])
def wsX1_rem : List Cond := .code yX1_rem cX1_rem 4 (some .int) :: ([])
def wsX1_isPrime : List Cond := .code yX1_isPrime cX1_isPrime 3 (some .boolean) :: ([])
def wsX1_prime : List Cond := .code yX1_prime cX1_prime 2 (some .int) :: ([.fieldLink RX1 46 "TurningSumsModel" "root" "I", .methodLink RX1 62 yX1_isPrime, .static yX1_isPrime, .initialized RX1, .code yX1_isPrime cX1_isPrime 3 (some .boolean), .methodLink RX1 32 yX1_begin, .instanceMethod yX1_begin, .selects RX1 yX1_begin yX1_begin, .code yX1_begin cX1_begin 4 none, .fieldLink RX1 42 "TurningSumsModel" "p" "I", .fieldLink RX1 7 "TurningSumsModel" "index" "[I", .methodLink RX1 49 yX1_setDegree, .instanceMethod yX1_setDegree, .selects RX1 yX1_setDegree yX1_setDegree, .code yX1_setDegree cX1_setDegree 3 none, .fieldLink RX1 52 "TurningSumsModel" "d" "I", .fieldLink RX1 55 "TurningSumsModel" "phi" "I", .fieldLink RX1 13 "TurningSumsModel" "hold" "[J", .fieldLink RX1 17 "TurningSumsModel" "relation" "[I", .methodLink RX1 58 yX1_common, .static yX1_common, .code yX1_common cX1_common 5 (some .int)] ++ wsX10)
def wsX1_degree : List Cond := .code yX1_degree cX1_degree 2 (some .int) :: ([.constantLong RX1 66 (12), .fieldLink RX1 42 "TurningSumsModel" "p" "I", .fieldLink RX1 55 "TurningSumsModel" "phi" "I", .methodLink RX1 38 yX1_in, .static yX1_in, .initialized RX1, .code yX1_in cX1_in 6 (some .boolean), .methodLink RX1 49 yX1_setDegree, .instanceMethod yX1_setDegree, .selects RX1 yX1_setDegree yX1_setDegree, .code yX1_setDegree cX1_setDegree 3 none, .fieldLink RX1 52 "TurningSumsModel" "d" "I", .fieldLink RX1 13 "TurningSumsModel" "hold" "[J", .fieldLink RX1 17 "TurningSumsModel" "relation" "[I", .methodLink RX1 58 yX1_common, .static yX1_common, .code yX1_common cX1_common 5 (some .int)] ++ wsX10)
def wsX1_rest : List Cond := .code yX1_rest cX1_rest 4 (some .int) :: ([.fieldLink RX1 42 "TurningSumsModel" "p" "I", .fieldLink RX1 7 "TurningSumsModel" "index" "[I", .fieldLink RX1 52 "TurningSumsModel" "d" "I", .methodLink RX1 38 yX1_in, .static yX1_in, .initialized RX1, .code yX1_in cX1_in 6 (some .boolean), .methodLink RX1 68 yX1_rem, .static yX1_rem, .code yX1_rem cX1_rem 4 (some .int)] ++ wsX10)
def wsX1_classOf : List Cond := .code yX1_classOf cX1_classOf 2 (some .int) :: ([.fieldLink RX1 7 "TurningSumsModel" "index" "[I", .fieldLink RX1 52 "TurningSumsModel" "d" "I"] ++ wsX10)
def wsX1_meeting : List Cond := .code yX1_meeting cX1_meeting 5 (some .int) :: ([.fieldLink RX1 52 "TurningSumsModel" "d" "I", .fieldLink RX1 42 "TurningSumsModel" "p" "I", .methodLink RX1 38 yX1_in, .static yX1_in, .initialized RX1, .code yX1_in cX1_in 6 (some .boolean), .methodLink RX1 72 yX1_classOf, .instanceMethod yX1_classOf, .selects RX1 yX1_classOf yX1_classOf, .code yX1_classOf cX1_classOf 2 (some .int), .fieldLink RX1 7 "TurningSumsModel" "index" "[I"] ++ wsX10)
def wsX1_empty : List Cond := .code yX1_empty cX1_empty 2 none :: ([.fieldLink RX1 20 "TurningSumsModel" "work" "[J"] ++ wsX10)
def wsX1_reduce : List Cond := .code yX1_reduce cX1_reduce 5 none :: ([.fieldLink RX1 55 "TurningSumsModel" "phi" "I", .fieldLink RX1 20 "TurningSumsModel" "work" "[J", .fieldLink RX1 17 "TurningSumsModel" "relation" "[I"] ++ wsX10)
def wsX1_lay : List Cond := .code yX1_lay cX1_lay 3 (some .int) :: ([.fieldLink RX1 55 "TurningSumsModel" "phi" "I", .fieldLink RX1 20 "TurningSumsModel" "work" "[J", .constantLong RX1 76 (-100000000), .constantLong RX1 78 (100000000), .fieldLink RX1 13 "TurningSumsModel" "hold" "[J", .methodLink RX1 38 yX1_in, .static yX1_in, .initialized RX1, .code yX1_in cX1_in 6 (some .boolean)] ++ wsX10)
def wsX1_sum_r1 : List Cond := [Cond.fieldLink RX1 42 "TurningSumsModel" "p" "I", Cond.fieldLink RX1 20 "TurningSumsModel" "work" "[J", Cond.fieldLink RX1 52 "TurningSumsModel" "d" "I", Cond.methodLink RX1 80 yX1_isHold, Cond.static yX1_isHold, Cond.initialized RX1, Cond.code yX1_isHold cX1_isHold 1 (some .boolean), Cond.constantLong RX1 36 (5), Cond.methodLink RX1 38 yX1_in, Cond.static yX1_in, Cond.code yX1_in cX1_in 6 (some .boolean), Cond.methodLink RX1 83 yX1_empty, Cond.instanceMethod yX1_empty, Cond.selects RX1 yX1_empty yX1_empty, Cond.code yX1_empty cX1_empty 2 none, Cond.methodLink RX1 72 yX1_classOf, Cond.instanceMethod yX1_classOf, Cond.selects RX1 yX1_classOf yX1_classOf, Cond.code yX1_classOf cX1_classOf 2 (some .int), Cond.fieldLink RX1 7 "TurningSumsModel" "index" "[I", Cond.methodLink RX1 68 yX1_rem, Cond.static yX1_rem, Cond.code yX1_rem cX1_rem 4 (some .int), Cond.methodLink RX1 86 yX1_reduce]
def wsX1_sum_r2 : List Cond := [Cond.instanceMethod yX1_reduce, Cond.selects RX1 yX1_reduce yX1_reduce, Cond.code yX1_reduce cX1_reduce 5 none, Cond.fieldLink RX1 55 "TurningSumsModel" "phi" "I", Cond.fieldLink RX1 17 "TurningSumsModel" "relation" "[I", Cond.methodLink RX1 89 yX1_lay, Cond.instanceMethod yX1_lay, Cond.selects RX1 yX1_lay yX1_lay, Cond.code yX1_lay cX1_lay 3 (some .int), Cond.constantLong RX1 76 (-100000000), Cond.constantLong RX1 78 (100000000), Cond.fieldLink RX1 13 "TurningSumsModel" "hold" "[J"]
def wsX1_sum : List Cond := .code yX1_sum cX1_sum 7 (some .int) :: ((wsX1_sum_r1 ++ wsX1_sum_r2) ++ wsX10)
def wsX1_unit_r1 : List Cond := [Cond.constantLong RX1 92 (-1000), Cond.constantLong RX1 94 (1000), Cond.fieldLink RX1 20 "TurningSumsModel" "work" "[J", Cond.fieldLink RX1 52 "TurningSumsModel" "d" "I", Cond.methodLink RX1 80 yX1_isHold, Cond.static yX1_isHold, Cond.initialized RX1, Cond.code yX1_isHold cX1_isHold 1 (some .boolean), Cond.constantLong RX1 36 (5), Cond.methodLink RX1 38 yX1_in, Cond.static yX1_in, Cond.code yX1_in cX1_in 6 (some .boolean), Cond.methodLink RX1 83 yX1_empty, Cond.instanceMethod yX1_empty, Cond.selects RX1 yX1_empty yX1_empty, Cond.code yX1_empty cX1_empty 2 none, Cond.methodLink RX1 68 yX1_rem, Cond.static yX1_rem, Cond.code yX1_rem cX1_rem 4 (some .int), Cond.methodLink RX1 86 yX1_reduce, Cond.instanceMethod yX1_reduce, Cond.selects RX1 yX1_reduce yX1_reduce, Cond.code yX1_reduce cX1_reduce 5 none, Cond.fieldLink RX1 55 "TurningSumsModel" "phi" "I"]
def wsX1_unit_r2 : List Cond := [Cond.fieldLink RX1 17 "TurningSumsModel" "relation" "[I", Cond.methodLink RX1 89 yX1_lay, Cond.instanceMethod yX1_lay, Cond.selects RX1 yX1_lay yX1_lay, Cond.code yX1_lay cX1_lay 3 (some .int), Cond.constantLong RX1 76 (-100000000), Cond.constantLong RX1 78 (100000000), Cond.fieldLink RX1 13 "TurningSumsModel" "hold" "[J"]
def wsX1_unit : List Cond := .code yX1_unit cX1_unit 4 (some .int) :: ((wsX1_unit_r1 ++ wsX1_unit_r2) ++ wsX10)
def wsX1_times : List Cond := .code yX1_times cX1_times 6 none :: ([.fieldLink RX1 55 "TurningSumsModel" "phi" "I", .fieldLink RX1 20 "TurningSumsModel" "work" "[J", .fieldLink RX1 13 "TurningSumsModel" "hold" "[J", .methodLink RX1 83 yX1_empty, .instanceMethod yX1_empty, .selects RX1 yX1_empty yX1_empty, .initialized RX1, .code yX1_empty cX1_empty 2 none, .methodLink RX1 86 yX1_reduce, .instanceMethod yX1_reduce, .selects RX1 yX1_reduce yX1_reduce, .code yX1_reduce cX1_reduce 5 none, .fieldLink RX1 17 "TurningSumsModel" "relation" "[I"] ++ wsX10)
def wsX1_join_r1 : List Cond := [Cond.constantLong RX1 96 (2), Cond.fieldLink RX1 13 "TurningSumsModel" "hold" "[J", Cond.fieldLink RX1 55 "TurningSumsModel" "phi" "I", Cond.fieldLink RX1 20 "TurningSumsModel" "work" "[J", Cond.methodLink RX1 80 yX1_isHold, Cond.static yX1_isHold, Cond.initialized RX1, Cond.code yX1_isHold cX1_isHold 1 (some .boolean), Cond.constantLong RX1 36 (5), Cond.methodLink RX1 38 yX1_in, Cond.static yX1_in, Cond.code yX1_in cX1_in 6 (some .boolean), Cond.methodLink RX1 98 yX1_times, Cond.instanceMethod yX1_times, Cond.selects RX1 yX1_times yX1_times, Cond.code yX1_times cX1_times 6 none, Cond.methodLink RX1 83 yX1_empty, Cond.instanceMethod yX1_empty, Cond.selects RX1 yX1_empty yX1_empty, Cond.code yX1_empty cX1_empty 2 none, Cond.methodLink RX1 86 yX1_reduce, Cond.instanceMethod yX1_reduce, Cond.selects RX1 yX1_reduce yX1_reduce, Cond.code yX1_reduce cX1_reduce 5 none]
def wsX1_join_r2 : List Cond := [Cond.fieldLink RX1 17 "TurningSumsModel" "relation" "[I", Cond.methodLink RX1 89 yX1_lay, Cond.instanceMethod yX1_lay, Cond.selects RX1 yX1_lay yX1_lay, Cond.code yX1_lay cX1_lay 3 (some .int), Cond.constantLong RX1 76 (-100000000), Cond.constantLong RX1 78 (100000000)]
def wsX1_join : List Cond := .code yX1_join cX1_join 6 (some .int) :: ((wsX1_join_r1 ++ wsX1_join_r2) ++ wsX10)
def wsX1_turnOver : List Cond := .code yX1_turnOver cX1_turnOver 4 none :: ([.fieldLink RX1 55 "TurningSumsModel" "phi" "I", .fieldLink RX1 20 "TurningSumsModel" "work" "[J", .fieldLink RX1 52 "TurningSumsModel" "d" "I", .fieldLink RX1 13 "TurningSumsModel" "hold" "[J", .methodLink RX1 83 yX1_empty, .instanceMethod yX1_empty, .selects RX1 yX1_empty yX1_empty, .initialized RX1, .code yX1_empty cX1_empty 2 none, .methodLink RX1 68 yX1_rem, .static yX1_rem, .code yX1_rem cX1_rem 4 (some .int), .methodLink RX1 86 yX1_reduce, .instanceMethod yX1_reduce, .selects RX1 yX1_reduce yX1_reduce, .code yX1_reduce cX1_reduce 5 none, .fieldLink RX1 17 "TurningSumsModel" "relation" "[I"] ++ wsX10)
def wsX1_turn_r1 : List Cond := [Cond.fieldLink RX1 52 "TurningSumsModel" "d" "I", Cond.methodLink RX1 80 yX1_isHold, Cond.static yX1_isHold, Cond.initialized RX1, Cond.code yX1_isHold cX1_isHold 1 (some .boolean), Cond.constantLong RX1 36 (5), Cond.methodLink RX1 38 yX1_in, Cond.static yX1_in, Cond.code yX1_in cX1_in 6 (some .boolean), Cond.methodLink RX1 68 yX1_rem, Cond.static yX1_rem, Cond.code yX1_rem cX1_rem 4 (some .int), Cond.methodLink RX1 58 yX1_common, Cond.static yX1_common, Cond.code yX1_common cX1_common 5 (some .int), Cond.methodLink RX1 102 yX1_turnOver, Cond.instanceMethod yX1_turnOver, Cond.selects RX1 yX1_turnOver yX1_turnOver, Cond.code yX1_turnOver cX1_turnOver 4 none, Cond.fieldLink RX1 55 "TurningSumsModel" "phi" "I", Cond.fieldLink RX1 20 "TurningSumsModel" "work" "[J", Cond.fieldLink RX1 13 "TurningSumsModel" "hold" "[J", Cond.methodLink RX1 83 yX1_empty, Cond.instanceMethod yX1_empty]
def wsX1_turn_r2 : List Cond := [Cond.selects RX1 yX1_empty yX1_empty, Cond.code yX1_empty cX1_empty 2 none, Cond.methodLink RX1 86 yX1_reduce, Cond.instanceMethod yX1_reduce, Cond.selects RX1 yX1_reduce yX1_reduce, Cond.code yX1_reduce cX1_reduce 5 none, Cond.fieldLink RX1 17 "TurningSumsModel" "relation" "[I", Cond.methodLink RX1 89 yX1_lay, Cond.instanceMethod yX1_lay, Cond.selects RX1 yX1_lay yX1_lay, Cond.code yX1_lay cX1_lay 3 (some .int), Cond.constantLong RX1 76 (-100000000), Cond.constantLong RX1 78 (100000000)]
def wsX1_turn : List Cond := .code yX1_turn cX1_turn 4 (some .int) :: ((wsX1_turn_r1 ++ wsX1_turn_r2) ++ wsX10)
def wsX1_at : List Cond := .code yX1_at cX1_at 3 (some .int) :: ([.fieldLink RX1 55 "TurningSumsModel" "phi" "I", .fieldLink RX1 13 "TurningSumsModel" "hold" "[J", .constant RX1 106 (-2147483648), .methodLink RX1 80 yX1_isHold, .static yX1_isHold, .initialized RX1, .code yX1_isHold cX1_isHold 1 (some .boolean), .constantLong RX1 36 (5), .methodLink RX1 38 yX1_in, .static yX1_in, .code yX1_in cX1_in 6 (some .boolean)] ++ wsX10)
def wsX1_same : List Cond := .code yX1_same cX1_same 5 (some .int) :: ([.fieldLink RX1 13 "TurningSumsModel" "hold" "[J", .methodLink RX1 80 yX1_isHold, .static yX1_isHold, .initialized RX1, .code yX1_isHold cX1_isHold 1 (some .boolean), .constantLong RX1 36 (5), .methodLink RX1 38 yX1_in, .static yX1_in, .code yX1_in cX1_in 6 (some .boolean)] ++ wsX10)
def wsX1_size_r1 : List Cond := [Cond.constantLong RX1 107 (-9223372036854775808), Cond.fieldLink RX1 52 "TurningSumsModel" "d" "I", Cond.fieldLink RX1 23 "TurningSumsModel" "turned" "[J", Cond.fieldLink RX1 20 "TurningSumsModel" "work" "[J", Cond.fieldLink RX1 55 "TurningSumsModel" "phi" "I", Cond.methodLink RX1 80 yX1_isHold, Cond.static yX1_isHold, Cond.initialized RX1, Cond.code yX1_isHold cX1_isHold 1 (some .boolean), Cond.constantLong RX1 36 (5), Cond.methodLink RX1 38 yX1_in, Cond.static yX1_in, Cond.code yX1_in cX1_in 6 (some .boolean), Cond.methodLink RX1 102 yX1_turnOver, Cond.instanceMethod yX1_turnOver, Cond.selects RX1 yX1_turnOver yX1_turnOver, Cond.code yX1_turnOver cX1_turnOver 4 none, Cond.fieldLink RX1 13 "TurningSumsModel" "hold" "[J", Cond.methodLink RX1 83 yX1_empty, Cond.instanceMethod yX1_empty, Cond.selects RX1 yX1_empty yX1_empty, Cond.code yX1_empty cX1_empty 2 none, Cond.methodLink RX1 68 yX1_rem, Cond.static yX1_rem]
def wsX1_size_r2 : List Cond := [Cond.code yX1_rem cX1_rem 4 (some .int), Cond.methodLink RX1 86 yX1_reduce, Cond.instanceMethod yX1_reduce, Cond.selects RX1 yX1_reduce yX1_reduce, Cond.code yX1_reduce cX1_reduce 5 none, Cond.fieldLink RX1 17 "TurningSumsModel" "relation" "[I", Cond.methodLink RX1 98 yX1_times, Cond.instanceMethod yX1_times, Cond.selects RX1 yX1_times yX1_times, Cond.code yX1_times cX1_times 6 none]
def wsX1_size : List Cond := .code yX1_size cX1_size 4 (some .long) :: ((wsX1_size_r1 ++ wsX1_size_r2) ++ wsX10)
def wsX1_power : List Cond := .code yX1_power cX1_power 4 (some .int) :: ([.fieldLink RX1 52 "TurningSumsModel" "d" "I", .fieldLink RX1 42 "TurningSumsModel" "p" "I"] ++ wsX10)
def wsX1_solutions : List Cond := .code yX1_solutions cX1_solutions 8 (some .int) :: ([.fieldLink RX1 42 "TurningSumsModel" "p" "I", .methodLink RX1 68 yX1_rem, .static yX1_rem, .initialized RX1, .code yX1_rem cX1_rem 4 (some .int), .methodLink RX1 109 yX1_power, .instanceMethod yX1_power, .selects RX1 yX1_power yX1_power, .code yX1_power cX1_power 4 (some .int), .fieldLink RX1 52 "TurningSumsModel" "d" "I"] ++ wsX10)
def wsX1_rows : List Cond := .code yX1_rows cX1_rows 7 (some .long) :: ([.constantLong RX1 112 (6), .constantLong RX1 114 (-3), .fieldLink RX1 42 "TurningSumsModel" "p" "I", .fieldLink RX1 26 "TurningSumsModel" "ways" "[J", .fieldLink RX1 29 "TurningSumsModel" "next" "[J", .methodLink RX1 38 yX1_in, .static yX1_in, .initialized RX1, .code yX1_in cX1_in 6 (some .boolean), .methodLink RX1 72 yX1_classOf, .instanceMethod yX1_classOf, .selects RX1 yX1_classOf yX1_classOf, .code yX1_classOf cX1_classOf 2 (some .int), .fieldLink RX1 7 "TurningSumsModel" "index" "[I", .fieldLink RX1 52 "TurningSumsModel" "d" "I", .methodLink RX1 68 yX1_rem, .static yX1_rem, .code yX1_rem cX1_rem 4 (some .int)] ++ wsX10)
def wsX1_signOf : List Cond := .code yX1_signOf cX1_signOf 4 (some .int) :: ([.methodLink RX1 72 yX1_classOf, .instanceMethod yX1_classOf, .selects RX1 yX1_classOf yX1_classOf, .initialized RX1, .code yX1_classOf cX1_classOf 2 (some .int), .fieldLink RX1 7 "TurningSumsModel" "index" "[I", .fieldLink RX1 52 "TurningSumsModel" "d" "I"] ++ wsX10)
def wsX1_overOf : List Cond := .code yX1_overOf cX1_overOf 6 (some .int) :: ([.fieldLink RX1 42 "TurningSumsModel" "p" "I", .methodLink RX1 116 yX1_signOf, .instanceMethod yX1_signOf, .selects RX1 yX1_signOf yX1_signOf, .initialized RX1, .code yX1_signOf cX1_signOf 4 (some .int), .methodLink RX1 72 yX1_classOf, .instanceMethod yX1_classOf, .selects RX1 yX1_classOf yX1_classOf, .code yX1_classOf cX1_classOf 2 (some .int), .fieldLink RX1 7 "TurningSumsModel" "index" "[I", .fieldLink RX1 52 "TurningSumsModel" "d" "I"] ++ wsX10)
def wsX1_isSet : List Cond := .code yX1_isSet cX1_isSet 2 (some .boolean) :: ([.fieldLink RX1 52 "TurningSumsModel" "d" "I", .methodLink RX1 38 yX1_in, .static yX1_in, .initialized RX1, .code yX1_in cX1_in 6 (some .boolean)] ++ wsX10)
def wsX1_isSign : List Cond := .code yX1_isSign cX1_isSign 1 (some .boolean) :: ([])
def wsX1_over_r1 : List Cond := [Cond.constant RX1 106 (-2147483648), Cond.fieldLink RX1 42 "TurningSumsModel" "p" "I", Cond.methodLink RX1 120 yX1_isSet, Cond.instanceMethod yX1_isSet, Cond.selects RX1 yX1_isSet yX1_isSet, Cond.initialized RX1, Cond.code yX1_isSet cX1_isSet 2 (some .boolean), Cond.fieldLink RX1 52 "TurningSumsModel" "d" "I", Cond.methodLink RX1 38 yX1_in, Cond.static yX1_in, Cond.code yX1_in cX1_in 6 (some .boolean), Cond.methodLink RX1 123 yX1_isSign, Cond.static yX1_isSign, Cond.code yX1_isSign cX1_isSign 1 (some .boolean), Cond.methodLink RX1 68 yX1_rem, Cond.static yX1_rem, Cond.code yX1_rem cX1_rem 4 (some .int), Cond.methodLink RX1 126 yX1_overOf, Cond.instanceMethod yX1_overOf, Cond.selects RX1 yX1_overOf yX1_overOf, Cond.code yX1_overOf cX1_overOf 6 (some .int), Cond.methodLink RX1 116 yX1_signOf, Cond.instanceMethod yX1_signOf, Cond.selects RX1 yX1_signOf yX1_signOf]
def wsX1_over_r2 : List Cond := [Cond.code yX1_signOf cX1_signOf 4 (some .int), Cond.methodLink RX1 72 yX1_classOf, Cond.instanceMethod yX1_classOf, Cond.selects RX1 yX1_classOf yX1_classOf, Cond.code yX1_classOf cX1_classOf 2 (some .int), Cond.fieldLink RX1 7 "TurningSumsModel" "index" "[I"]
def wsX1_over : List Cond := .code yX1_over cX1_over 4 (some .int) :: ((wsX1_over_r1 ++ wsX1_over_r2) ++ wsX10)
def wsX1_peak_r1 : List Cond := [Cond.fieldLink RX1 42 "TurningSumsModel" "p" "I", Cond.methodLink RX1 120 yX1_isSet, Cond.instanceMethod yX1_isSet, Cond.selects RX1 yX1_isSet yX1_isSet, Cond.initialized RX1, Cond.code yX1_isSet cX1_isSet 2 (some .boolean), Cond.fieldLink RX1 52 "TurningSumsModel" "d" "I", Cond.methodLink RX1 38 yX1_in, Cond.static yX1_in, Cond.code yX1_in cX1_in 6 (some .boolean), Cond.methodLink RX1 123 yX1_isSign, Cond.static yX1_isSign, Cond.code yX1_isSign cX1_isSign 1 (some .boolean), Cond.methodLink RX1 126 yX1_overOf, Cond.instanceMethod yX1_overOf, Cond.selects RX1 yX1_overOf yX1_overOf, Cond.code yX1_overOf cX1_overOf 6 (some .int), Cond.methodLink RX1 116 yX1_signOf, Cond.instanceMethod yX1_signOf, Cond.selects RX1 yX1_signOf yX1_signOf, Cond.code yX1_signOf cX1_signOf 4 (some .int), Cond.methodLink RX1 72 yX1_classOf, Cond.instanceMethod yX1_classOf, Cond.selects RX1 yX1_classOf yX1_classOf]
def wsX1_peak_r2 : List Cond := [Cond.code yX1_classOf cX1_classOf 2 (some .int), Cond.fieldLink RX1 7 "TurningSumsModel" "index" "[I"]
def wsX1_peak : List Cond := .code yX1_peak cX1_peak 6 (some .int) :: ((wsX1_peak_r1 ++ wsX1_peak_r2) ++ wsX10)
def wsX1_even : List Cond := .code yX1_even cX1_even 7 (some .int) :: ([.fieldLink RX1 42 "TurningSumsModel" "p" "I", .methodLink RX1 120 yX1_isSet, .instanceMethod yX1_isSet, .selects RX1 yX1_isSet yX1_isSet, .initialized RX1, .code yX1_isSet cX1_isSet 2 (some .boolean), .fieldLink RX1 52 "TurningSumsModel" "d" "I", .methodLink RX1 38 yX1_in, .static yX1_in, .code yX1_in cX1_in 6 (some .boolean), .methodLink RX1 72 yX1_classOf, .instanceMethod yX1_classOf, .selects RX1 yX1_classOf yX1_classOf, .code yX1_classOf cX1_classOf 2 (some .int), .fieldLink RX1 7 "TurningSumsModel" "index" "[I"] ++ wsX10)
def wsX1_classes : List Cond := .code yX1_classes cX1_classes 7 (some .int) :: ([.fieldLink RX1 42 "TurningSumsModel" "p" "I", .fieldLink RX1 7 "TurningSumsModel" "index" "[I", .methodLink RX1 38 yX1_in, .static yX1_in, .initialized RX1, .code yX1_in cX1_in 6 (some .boolean)] ++ wsX10)
def wsX1_count : List Cond := .code yX1_count cX1_count 2 (some .int) :: ([.fieldLink RX1 42 "TurningSumsModel" "p" "I", .fieldLink RX1 46 "TurningSumsModel" "root" "I", .fieldLink RX1 52 "TurningSumsModel" "d" "I", .fieldLink RX1 55 "TurningSumsModel" "phi" "I"] ++ wsX10)
def wsJ9_abs_0f7a4 : List Cond := .code yJ9_abs_0f7a4 cJ9_abs_0f7a4 1 (some .int) :: ([])
def wsJ9_max_7cf53 : List Cond := .code yJ9_max_7cf53 cJ9_max_7cf53 2 (some .int) :: ([])
abbrev vwCl : List vw_C := [(RX0, TX0, 12), (RX1, TX1, 11)]
end
section
set_option maxRecDepth 20000 in
theorem ggX0_init_X0_setPrime : GoodIn wsX0_init wsX0_setPrime := goodIn_r _ [19, 20, 21, 5, 6, 22, 23, 24, 18, 25, 26, 27, 28, 29, 30, 31, 32, 33, 34, 35, 10, 36, 37, 38, 39, 40, 41, 42, 43, 44, 45, 46, 47, 48, 49, 50, 51, 52, 53, 54, 55] (by decide +kernel) (by decide +kernel)
set_option maxRecDepth 20000 in
theorem gX0_init_X0_setPrime : GoodIn wsX0_init (wsV RX0 37 RX0 yX0_setPrime wsX0_setPrime) := goodIn_app (goodIn_of _ (by decide +kernel)) ggX0_init_X0_setPrime
theorem dX0_init_0 : decode cX0_init 0 = .ok (.aload_n 0, 1) := by decide +kernel
theorem dX0_init_1 : decode cX0_init 1 = .ok (.invokespecial 1, 3) := by decide +kernel
theorem dX0_init_4 : decode cX0_init 4 = .ok (.aload_n 0, 1) := by decide +kernel
theorem dX0_init_5 : decode cX0_init 5 = .ok (.sipush 199, 3) := by decide +kernel
theorem dX0_init_8 : decode cX0_init 8 = .ok (.newarray .int, 2) := by decide +kernel
theorem dX0_init_10 : decode cX0_init 10 = .ok (.putfield 9, 3) := by decide +kernel
theorem dX0_init_13 : decode cX0_init 13 = .ok (.aload_n 0, 1) := by decide +kernel
theorem dX0_init_14 : decode cX0_init 14 = .ok (.sipush 199, 3) := by decide +kernel
theorem dX0_init_17 : decode cX0_init 17 = .ok (.newarray .int, 2) := by decide +kernel
theorem dX0_init_19 : decode cX0_init 19 = .ok (.putfield 13, 3) := by decide +kernel
theorem dX0_init_22 : decode cX0_init 22 = .ok (.aload_n 0, 1) := by decide +kernel
theorem dX0_init_23 : decode cX0_init 23 = .ok (.sipush 199, 3) := by decide +kernel
theorem dX0_init_26 : decode cX0_init 26 = .ok (.newarray .int, 2) := by decide +kernel
theorem dX0_init_28 : decode cX0_init 28 = .ok (.putfield 16, 3) := by decide +kernel
theorem dX0_init_31 : decode cX0_init 31 = .ok (.aload_n 0, 1) := by decide +kernel
theorem dX0_init_32 : decode cX0_init 32 = .ok (.sipush 199, 3) := by decide +kernel
theorem dX0_init_35 : decode cX0_init 35 = .ok (.newarray .int, 2) := by decide +kernel
theorem dX0_init_37 : decode cX0_init 37 = .ok (.putfield 19, 3) := by decide +kernel
theorem dX0_init_40 : decode cX0_init 40 = .ok (.aload_n 0, 1) := by decide +kernel
theorem dX0_init_41 : decode cX0_init 41 = .ok (.bipush 6, 2) := by decide +kernel
theorem dX0_init_43 : decode cX0_init 43 = .ok (.bipush 10, 2) := by decide +kernel
theorem dX0_init_45 : decode cX0_init 45 = .ok (.multianewarray 22 2, 4) := by decide +kernel
theorem dX0_init_49 : decode cX0_init 49 = .ok (.putfield 24, 3) := by decide +kernel
theorem dX0_init_52 : decode cX0_init 52 = .ok (.aload_n 0, 1) := by decide +kernel
theorem dX0_init_53 : decode cX0_init 53 = .ok (.bipush 12, 2) := by decide +kernel
theorem dX0_init_55 : decode cX0_init 55 = .ok (.newarray .long, 2) := by decide +kernel
theorem dX0_init_57 : decode cX0_init 57 = .ok (.putfield 27, 3) := by decide +kernel
theorem dX0_init_60 : decode cX0_init 60 = .ok (.aload_n 0, 1) := by decide +kernel
theorem dX0_init_61 : decode cX0_init 61 = .ok (.bipush 12, 2) := by decide +kernel
theorem dX0_init_63 : decode cX0_init 63 = .ok (.newarray .long, 2) := by decide +kernel
theorem dX0_init_65 : decode cX0_init 65 = .ok (.putfield 31, 3) := by decide +kernel
theorem dX0_init_68 : decode cX0_init 68 = .ok (.aload_n 0, 1) := by decide +kernel
theorem dX0_init_69 : decode cX0_init 69 = .ok (.bipush 12, 2) := by decide +kernel
theorem dX0_init_71 : decode cX0_init 71 = .ok (.newarray .long, 2) := by decide +kernel
theorem dX0_init_73 : decode cX0_init 73 = .ok (.putfield 34, 3) := by decide +kernel
theorem dX0_init_76 : decode cX0_init 76 = .ok (.aload_n 0, 1) := by decide +kernel
theorem dX0_init_77 : decode cX0_init 77 = .ok (.bipush 13, 2) := by decide +kernel
theorem dX0_init_79 : decode cX0_init 79 = .ok (.invokevirtual 37, 3) := by decide +kernel
theorem dX0_init_82 : decode cX0_init 82 = .ok (.return_, 1) := by decide +kernel
set_option maxRecDepth 20000 in
theorem ggX0_prime_X0_isPrime : GoodIn wsX0_prime wsX0_isPrime := goodIn_r _ [5] (by decide +kernel) (by decide +kernel)
set_option maxRecDepth 20000 in
theorem gX0_prime_X0_isPrime : GoodIn wsX0_prime (va_wsS RX0 41 yX0_isPrime wsX0_isPrime) := goodIn_app (goodIn_of _ (by decide +kernel)) ggX0_prime_X0_isPrime
set_option maxRecDepth 20000 in
theorem ggX0_prime_X0_setPrime : GoodIn wsX0_prime wsX0_setPrime := goodIn_r _ [9, 10, 1, 11, 12, 13, 14, 15, 4, 16, 17, 18, 19, 20, 21, 22, 23, 24, 25, 26, 27, 28, 29, 30, 31, 32, 33, 34, 35, 36, 37, 38, 39, 40, 41, 42, 43, 44, 45, 46, 47] (by decide +kernel) (by decide +kernel)
set_option maxRecDepth 20000 in
theorem gX0_prime_X0_setPrime : GoodIn wsX0_prime (wsV RX0 37 RX0 yX0_setPrime wsX0_setPrime) := goodIn_app (goodIn_of _ (by decide +kernel)) ggX0_prime_X0_setPrime
theorem dX0_prime_0 : decode cX0_prime 0 = .ok (.iload_n 1, 1) := by decide +kernel
theorem dX0_prime_1 : decode cX0_prime 1 = .ok (.iconst 3, 1) := by decide +kernel
theorem dX0_prime_2 : decode cX0_prime 2 = .ok (.if_icmp .lt 17, 3) := by decide +kernel
theorem dX0_prime_5 : decode cX0_prime 5 = .ok (.iload_n 1, 1) := by decide +kernel
theorem dX0_prime_6 : decode cX0_prime 6 = .ok (.sipush 199, 3) := by decide +kernel
theorem dX0_prime_9 : decode cX0_prime 9 = .ok (.if_icmp .gt 10, 3) := by decide +kernel
theorem dX0_prime_12 : decode cX0_prime 12 = .ok (.iload_n 1, 1) := by decide +kernel
theorem dX0_prime_13 : decode cX0_prime 13 = .ok (.invokestatic 41, 3) := by decide +kernel
theorem dX0_prime_16 : decode cX0_prime 16 = .ok (.ifCond .ne 6, 3) := by decide +kernel
theorem dX0_prime_19 : decode cX0_prime 19 = .ok (.bipush (-3), 2) := by decide +kernel
theorem dX0_prime_21 : decode cX0_prime 21 = .ok (.ireturn, 1) := by decide +kernel
theorem dX0_prime_22 : decode cX0_prime 22 = .ok (.aload_n 0, 1) := by decide +kernel
theorem dX0_prime_23 : decode cX0_prime 23 = .ok (.iload_n 1, 1) := by decide +kernel
theorem dX0_prime_24 : decode cX0_prime 24 = .ok (.invokevirtual 37, 3) := by decide +kernel
theorem dX0_prime_27 : decode cX0_prime 27 = .ok (.aload_n 0, 1) := by decide +kernel
theorem dX0_prime_28 : decode cX0_prime 28 = .ok (.getfield 45, 3) := by decide +kernel
theorem dX0_prime_31 : decode cX0_prime 31 = .ok (.ireturn, 1) := by decide +kernel
set_option maxRecDepth 20000 in
theorem ggX0_degree_X0_setDegree : GoodIn wsX0_degree wsX0_setDegree := goodIn_r _ [7, 8, 2, 9, 10, 11, 12, 6, 13, 14, 15, 16, 17, 18, 19, 20, 21, 22, 23, 24, 25, 26, 27, 28, 29] (by decide +kernel) (by decide +kernel)
set_option maxRecDepth 20000 in
theorem gX0_degree_X0_setDegree : GoodIn wsX0_degree (wsV RX0 52 RX0 yX0_setDegree wsX0_setDegree) := goodIn_app (goodIn_of _ (by decide +kernel)) ggX0_degree_X0_setDegree
theorem dX0_degree_0 : decode cX0_degree 0 = .ok (.iload_n 1, 1) := by decide +kernel
theorem dX0_degree_1 : decode cX0_degree 1 = .ok (.iconst 1, 1) := by decide +kernel
theorem dX0_degree_2 : decode cX0_degree 2 = .ok (.if_icmp .lt 20, 3) := by decide +kernel
theorem dX0_degree_5 : decode cX0_degree 5 = .ok (.iload_n 1, 1) := by decide +kernel
theorem dX0_degree_6 : decode cX0_degree 6 = .ok (.bipush 12, 2) := by decide +kernel
theorem dX0_degree_8 : decode cX0_degree 8 = .ok (.if_icmp .gt 14, 3) := by decide +kernel
theorem dX0_degree_11 : decode cX0_degree 11 = .ok (.aload_n 0, 1) := by decide +kernel
theorem dX0_degree_12 : decode cX0_degree 12 = .ok (.getfield 49, 3) := by decide +kernel
theorem dX0_degree_15 : decode cX0_degree 15 = .ok (.iconst 1, 1) := by decide +kernel
theorem dX0_degree_16 : decode cX0_degree 16 = .ok (.isub, 1) := by decide +kernel
theorem dX0_degree_17 : decode cX0_degree 17 = .ok (.iload_n 1, 1) := by decide +kernel
theorem dX0_degree_18 : decode cX0_degree 18 = .ok (.irem, 1) := by decide +kernel
theorem dX0_degree_19 : decode cX0_degree 19 = .ok (.ifCond .eq 6, 3) := by decide +kernel
theorem dX0_degree_22 : decode cX0_degree 22 = .ok (.bipush (-3), 2) := by decide +kernel
theorem dX0_degree_24 : decode cX0_degree 24 = .ok (.ireturn, 1) := by decide +kernel
theorem dX0_degree_25 : decode cX0_degree 25 = .ok (.aload_n 0, 1) := by decide +kernel
theorem dX0_degree_26 : decode cX0_degree 26 = .ok (.iload_n 1, 1) := by decide +kernel
theorem dX0_degree_27 : decode cX0_degree 27 = .ok (.invokevirtual 52, 3) := by decide +kernel
theorem dX0_degree_30 : decode cX0_degree 30 = .ok (.aload_n 0, 1) := by decide +kernel
theorem dX0_degree_31 : decode cX0_degree 31 = .ok (.getfield 55, 3) := by decide +kernel
theorem dX0_degree_34 : decode cX0_degree 34 = .ok (.ireturn, 1) := by decide +kernel
set_option maxRecDepth 20000 in
theorem ggX0_rest_J9_floorMod_7cf53 : GoodIn wsX0_rest wsJ9_floorMod_7cf53 := goodIn_r _ [6] (by decide +kernel) (by decide +kernel)
set_option maxRecDepth 20000 in
theorem gX0_rest_J9_floorMod_7cf53 : GoodIn wsX0_rest (va_wsS RX0 58 yJ9_floorMod_7cf53 wsJ9_floorMod_7cf53) := goodIn_app (goodIn_of _ (by decide +kernel)) ggX0_rest_J9_floorMod_7cf53
set_option maxRecDepth 20000 in
theorem ggX0_rest_X0_classOf : GoodIn wsX0_rest wsX0_classOf := goodIn_r _ [11, 2, 1, 12, 13, 14, 15, 16, 17, 18, 19, 20, 21, 22, 23, 24] (by decide +kernel) (by decide +kernel)
set_option maxRecDepth 20000 in
theorem gX0_rest_X0_classOf : GoodIn wsX0_rest (wsV RX0 64 RX0 yX0_classOf wsX0_classOf) := goodIn_app (goodIn_of _ (by decide +kernel)) ggX0_rest_X0_classOf
theorem dX0_rest_0 : decode cX0_rest 0 = .ok (.iload_n 2, 1) := by decide +kernel
theorem dX0_rest_1 : decode cX0_rest 1 = .ok (.ifCond .lt 8, 3) := by decide +kernel
theorem dX0_rest_4 : decode cX0_rest 4 = .ok (.iload_n 2, 1) := by decide +kernel
theorem dX0_rest_5 : decode cX0_rest 5 = .ok (.iconst 1, 1) := by decide +kernel
theorem dX0_rest_6 : decode cX0_rest 6 = .ok (.if_icmp .le 6, 3) := by decide +kernel
theorem dX0_rest_9 : decode cX0_rest 9 = .ok (.bipush (-3), 2) := by decide +kernel
theorem dX0_rest_11 : decode cX0_rest 11 = .ok (.ireturn, 1) := by decide +kernel
theorem dX0_rest_12 : decode cX0_rest 12 = .ok (.iload_n 1, 1) := by decide +kernel
theorem dX0_rest_13 : decode cX0_rest 13 = .ok (.aload_n 0, 1) := by decide +kernel
theorem dX0_rest_14 : decode cX0_rest 14 = .ok (.getfield 49, 3) := by decide +kernel
theorem dX0_rest_17 : decode cX0_rest 17 = .ok (.invokestatic 58, 3) := by decide +kernel
theorem dX0_rest_20 : decode cX0_rest 20 = .ok (.istore_n 3, 1) := by decide +kernel
theorem dX0_rest_21 : decode cX0_rest 21 = .ok (.iload_n 3, 1) := by decide +kernel
theorem dX0_rest_22 : decode cX0_rest 22 = .ok (.ifCond .ne 5, 3) := by decide +kernel
theorem dX0_rest_25 : decode cX0_rest 25 = .ok (.iconst (-1), 1) := by decide +kernel
theorem dX0_rest_26 : decode cX0_rest 26 = .ok (.ireturn, 1) := by decide +kernel
theorem dX0_rest_27 : decode cX0_rest 27 = .ok (.iload_n 2, 1) := by decide +kernel
theorem dX0_rest_28 : decode cX0_rest 28 = .ok (.ifCond .ne 12, 3) := by decide +kernel
theorem dX0_rest_31 : decode cX0_rest 31 = .ok (.aload_n 0, 1) := by decide +kernel
theorem dX0_rest_32 : decode cX0_rest 32 = .ok (.getfield 9, 3) := by decide +kernel
theorem dX0_rest_35 : decode cX0_rest 35 = .ok (.iload_n 3, 1) := by decide +kernel
theorem dX0_rest_36 : decode cX0_rest 36 = .ok (.iaload, 1) := by decide +kernel
theorem dX0_rest_37 : decode cX0_rest 37 = .ok (.goto 8, 3) := by decide +kernel
theorem dX0_rest_40 : decode cX0_rest 40 = .ok (.aload_n 0, 1) := by decide +kernel
theorem dX0_rest_41 : decode cX0_rest 41 = .ok (.iload_n 3, 1) := by decide +kernel
theorem dX0_rest_42 : decode cX0_rest 42 = .ok (.invokevirtual 64, 3) := by decide +kernel
theorem dX0_rest_45 : decode cX0_rest 45 = .ok (.ireturn, 1) := by decide +kernel
set_option maxRecDepth 20000 in
theorem ggX0_meeting_X0_isClass : GoodIn wsX0_meeting wsX0_isClass := goodIn_r _ [6, 7, 13, 14, 15, 16, 17, 18, 19, 20, 21, 22, 23, 24] (by decide +kernel) (by decide +kernel)
set_option maxRecDepth 20000 in
theorem gX0_meeting_X0_isClass : GoodIn wsX0_meeting (wsV RX0 68 RX0 yX0_isClass wsX0_isClass) := goodIn_app (goodIn_of _ (by decide +kernel)) ggX0_meeting_X0_isClass
set_option maxRecDepth 20000 in
theorem ggX0_meeting_X0_classOf : GoodIn wsX0_meeting wsX0_classOf := goodIn_r _ [11, 12, 1, 7, 13, 14, 15, 16, 17, 18, 19, 20, 21, 22, 23, 24] (by decide +kernel) (by decide +kernel)
set_option maxRecDepth 20000 in
theorem gX0_meeting_X0_classOf : GoodIn wsX0_meeting (wsV RX0 64 RX0 yX0_classOf wsX0_classOf) := goodIn_app (goodIn_of _ (by decide +kernel)) ggX0_meeting_X0_classOf
theorem dX0_meeting_0 : decode cX0_meeting 0 = .ok (.aload_n 0, 1) := by decide +kernel
theorem dX0_meeting_1 : decode cX0_meeting 1 = .ok (.iload_n 1, 1) := by decide +kernel
theorem dX0_meeting_2 : decode cX0_meeting 2 = .ok (.invokevirtual 68, 3) := by decide +kernel
theorem dX0_meeting_5 : decode cX0_meeting 5 = .ok (.ifCond .eq 11, 3) := by decide +kernel
theorem dX0_meeting_8 : decode cX0_meeting 8 = .ok (.aload_n 0, 1) := by decide +kernel
theorem dX0_meeting_9 : decode cX0_meeting 9 = .ok (.iload_n 2, 1) := by decide +kernel
theorem dX0_meeting_10 : decode cX0_meeting 10 = .ok (.invokevirtual 68, 3) := by decide +kernel
theorem dX0_meeting_13 : decode cX0_meeting 13 = .ok (.ifCond .ne 6, 3) := by decide +kernel
theorem dX0_meeting_16 : decode cX0_meeting 16 = .ok (.bipush (-2), 2) := by decide +kernel
theorem dX0_meeting_18 : decode cX0_meeting 18 = .ok (.ireturn, 1) := by decide +kernel
theorem dX0_meeting_19 : decode cX0_meeting 19 = .ok (.iconst 0, 1) := by decide +kernel
theorem dX0_meeting_20 : decode cX0_meeting 20 = .ok (.istore_n 3, 1) := by decide +kernel
theorem dX0_meeting_21 : decode cX0_meeting 21 = .ok (.iconst 1, 1) := by decide +kernel
theorem dX0_meeting_22 : decode cX0_meeting 22 = .ok (.istore 4, 2) := by decide +kernel
theorem dX0_meeting_24 : decode cX0_meeting 24 = .ok (.iload 4, 2) := by decide +kernel
theorem dX0_meeting_26 : decode cX0_meeting 26 = .ok (.aload_n 0, 1) := by decide +kernel
theorem dX0_meeting_27 : decode cX0_meeting 27 = .ok (.getfield 49, 3) := by decide +kernel
theorem dX0_meeting_30 : decode cX0_meeting 30 = .ok (.iconst 1, 1) := by decide +kernel
theorem dX0_meeting_31 : decode cX0_meeting 31 = .ok (.isub, 1) := by decide +kernel
theorem dX0_meeting_32 : decode cX0_meeting 32 = .ok (.if_icmp .ge 34, 3) := by decide +kernel
theorem dX0_meeting_35 : decode cX0_meeting 35 = .ok (.aload_n 0, 1) := by decide +kernel
theorem dX0_meeting_36 : decode cX0_meeting 36 = .ok (.iload 4, 2) := by decide +kernel
theorem dX0_meeting_38 : decode cX0_meeting 38 = .ok (.invokevirtual 64, 3) := by decide +kernel
theorem dX0_meeting_41 : decode cX0_meeting 41 = .ok (.iload_n 1, 1) := by decide +kernel
theorem dX0_meeting_42 : decode cX0_meeting 42 = .ok (.if_icmp .ne 18, 3) := by decide +kernel
theorem dX0_meeting_45 : decode cX0_meeting 45 = .ok (.aload_n 0, 1) := by decide +kernel
theorem dX0_meeting_46 : decode cX0_meeting 46 = .ok (.iload 4, 2) := by decide +kernel
theorem dX0_meeting_48 : decode cX0_meeting 48 = .ok (.iconst 1, 1) := by decide +kernel
theorem dX0_meeting_49 : decode cX0_meeting 49 = .ok (.iadd, 1) := by decide +kernel
theorem dX0_meeting_50 : decode cX0_meeting 50 = .ok (.invokevirtual 64, 3) := by decide +kernel
theorem dX0_meeting_53 : decode cX0_meeting 53 = .ok (.iload_n 2, 1) := by decide +kernel
theorem dX0_meeting_54 : decode cX0_meeting 54 = .ok (.if_icmp .ne 6, 3) := by decide +kernel
theorem dX0_meeting_57 : decode cX0_meeting 57 = .ok (.iinc 3 1, 3) := by decide +kernel
theorem dX0_meeting_60 : decode cX0_meeting 60 = .ok (.iinc 4 1, 3) := by decide +kernel
theorem dX0_meeting_63 : decode cX0_meeting 63 = .ok (.goto (-39), 3) := by decide +kernel
theorem dX0_meeting_66 : decode cX0_meeting 66 = .ok (.iload_n 3, 1) := by decide +kernel
theorem dX0_meeting_67 : decode cX0_meeting 67 = .ok (.ireturn, 1) := by decide +kernel
set_option maxRecDepth 20000 in
theorem ggX0_sum_X0_isHold : GoodIn wsX0_sum wsX0_isHold := goodIn_r _ [7] (by decide +kernel) (by decide +kernel)
set_option maxRecDepth 20000 in
theorem gX0_sum_X0_isHold : GoodIn wsX0_sum (va_wsS RX0 71 yX0_isHold wsX0_isHold) := goodIn_app (goodIn_of _ (by decide +kernel)) ggX0_sum_X0_isHold
set_option maxRecDepth 20000 in
theorem ggX0_sum_J9_floorMod_7cf53 : GoodIn wsX0_sum wsJ9_floorMod_7cf53 := goodIn_r _ [11] (by decide +kernel) (by decide +kernel)
set_option maxRecDepth 20000 in
theorem gX0_sum_J9_floorMod_7cf53 : GoodIn wsX0_sum (va_wsS RX0 58 yJ9_floorMod_7cf53 wsJ9_floorMod_7cf53) := goodIn_app (goodIn_of _ (by decide +kernel)) ggX0_sum_J9_floorMod_7cf53
set_option maxRecDepth 20000 in
theorem ggX0_sum_J7_fill_d0a16 : GoodIn wsX0_sum wsJ7_fill_d0a16 := goodIn_r _ [15] (by decide +kernel) (by decide +kernel)
set_option maxRecDepth 20000 in
theorem gX0_sum_J7_fill_d0a16 : GoodIn wsX0_sum (va_wsS RX0 77 yJ7_fill_d0a16 wsJ7_fill_d0a16) := goodIn_app (goodIn_of _ (by decide +kernel)) ggX0_sum_J7_fill_d0a16
set_option maxRecDepth 20000 in
theorem ggX0_sum_X0_classOf : GoodIn wsX0_sum wsX0_classOf := goodIn_r _ [19, 20, 3, 1, 34, 35, 36, 37, 38, 39, 40, 41, 42, 43, 44, 45] (by decide +kernel) (by decide +kernel)
set_option maxRecDepth 20000 in
theorem gX0_sum_X0_classOf : GoodIn wsX0_sum (wsV RX0 64 RX0 yX0_classOf wsX0_classOf) := goodIn_app (goodIn_of _ (by decide +kernel)) ggX0_sum_X0_classOf
set_option maxRecDepth 20000 in
theorem ggX0_sum_X0_store : GoodIn wsX0_sum wsX0_store := goodIn_r _ [24, 25, 2, 26, 27, 28, 29, 30, 31, 6, 32, 1, 33, 34, 35, 36, 37, 38, 39, 40, 41, 42, 43, 44, 45] (by decide +kernel) (by decide +kernel)
set_option maxRecDepth 20000 in
theorem gX0_sum_X0_store : GoodIn wsX0_sum (wsV RX0 83 RX0 yX0_store wsX0_store) := goodIn_app (goodIn_of _ (by decide +kernel)) ggX0_sum_X0_store
theorem dX0_sum_0 : decode cX0_sum 0 = .ok (.iload_n 1, 1) := by decide +kernel
theorem dX0_sum_1 : decode cX0_sum 1 = .ok (.invokestatic 71, 3) := by decide +kernel
theorem dX0_sum_4 : decode cX0_sum 4 = .ok (.ifCond .ne 6, 3) := by decide +kernel
theorem dX0_sum_7 : decode cX0_sum 7 = .ok (.bipush (-2), 2) := by decide +kernel
theorem dX0_sum_9 : decode cX0_sum 9 = .ok (.ireturn, 1) := by decide +kernel
theorem dX0_sum_10 : decode cX0_sum 10 = .ok (.iload_n 2, 1) := by decide +kernel
theorem dX0_sum_11 : decode cX0_sum 11 = .ok (.aload_n 0, 1) := by decide +kernel
theorem dX0_sum_12 : decode cX0_sum 12 = .ok (.getfield 74, 3) := by decide +kernel
theorem dX0_sum_15 : decode cX0_sum 15 = .ok (.invokestatic 58, 3) := by decide +kernel
theorem dX0_sum_18 : decode cX0_sum 18 = .ok (.istore 4, 2) := by decide +kernel
theorem dX0_sum_20 : decode cX0_sum 20 = .ok (.iload_n 3, 1) := by decide +kernel
theorem dX0_sum_21 : decode cX0_sum 21 = .ok (.aload_n 0, 1) := by decide +kernel
theorem dX0_sum_22 : decode cX0_sum 22 = .ok (.getfield 74, 3) := by decide +kernel
theorem dX0_sum_25 : decode cX0_sum 25 = .ok (.invokestatic 58, 3) := by decide +kernel
theorem dX0_sum_28 : decode cX0_sum 28 = .ok (.istore 5, 2) := by decide +kernel
theorem dX0_sum_30 : decode cX0_sum 30 = .ok (.aload_n 0, 1) := by decide +kernel
theorem dX0_sum_31 : decode cX0_sum 31 = .ok (.getfield 27, 3) := by decide +kernel
theorem dX0_sum_34 : decode cX0_sum 34 = .ok (.lconst 0, 1) := by decide +kernel
theorem dX0_sum_35 : decode cX0_sum 35 = .ok (.invokestatic 77, 3) := by decide +kernel
theorem dX0_sum_38 : decode cX0_sum 38 = .ok (.iconst 2, 1) := by decide +kernel
theorem dX0_sum_39 : decode cX0_sum 39 = .ok (.istore 6, 2) := by decide +kernel
theorem dX0_sum_41 : decode cX0_sum 41 = .ok (.iload 6, 2) := by decide +kernel
theorem dX0_sum_43 : decode cX0_sum 43 = .ok (.aload_n 0, 1) := by decide +kernel
theorem dX0_sum_44 : decode cX0_sum 44 = .ok (.getfield 49, 3) := by decide +kernel
theorem dX0_sum_47 : decode cX0_sum 47 = .ok (.if_icmp .ge 49, 3) := by decide +kernel
theorem dX0_sum_50 : decode cX0_sum 50 = .ok (.aload_n 0, 1) := by decide +kernel
theorem dX0_sum_51 : decode cX0_sum 51 = .ok (.getfield 27, 3) := by decide +kernel
theorem dX0_sum_54 : decode cX0_sum 54 = .ok (.iload 4, 2) := by decide +kernel
theorem dX0_sum_56 : decode cX0_sum 56 = .ok (.aload_n 0, 1) := by decide +kernel
theorem dX0_sum_57 : decode cX0_sum 57 = .ok (.iload 6, 2) := by decide +kernel
theorem dX0_sum_59 : decode cX0_sum 59 = .ok (.invokevirtual 64, 3) := by decide +kernel
theorem dX0_sum_62 : decode cX0_sum 62 = .ok (.imul, 1) := by decide +kernel
theorem dX0_sum_63 : decode cX0_sum 63 = .ok (.iload 5, 2) := by decide +kernel
theorem dX0_sum_65 : decode cX0_sum 65 = .ok (.aload_n 0, 1) := by decide +kernel
theorem dX0_sum_66 : decode cX0_sum 66 = .ok (.aload_n 0, 1) := by decide +kernel
theorem dX0_sum_67 : decode cX0_sum 67 = .ok (.getfield 49, 3) := by decide +kernel
theorem dX0_sum_70 : decode cX0_sum 70 = .ok (.iconst 1, 1) := by decide +kernel
theorem dX0_sum_71 : decode cX0_sum 71 = .ok (.iadd, 1) := by decide +kernel
theorem dX0_sum_72 : decode cX0_sum 72 = .ok (.iload 6, 2) := by decide +kernel
theorem dX0_sum_74 : decode cX0_sum 74 = .ok (.isub, 1) := by decide +kernel
theorem dX0_sum_75 : decode cX0_sum 75 = .ok (.invokevirtual 64, 3) := by decide +kernel
theorem dX0_sum_78 : decode cX0_sum 78 = .ok (.imul, 1) := by decide +kernel
theorem dX0_sum_79 : decode cX0_sum 79 = .ok (.iadd, 1) := by decide +kernel
theorem dX0_sum_80 : decode cX0_sum 80 = .ok (.aload_n 0, 1) := by decide +kernel
theorem dX0_sum_81 : decode cX0_sum 81 = .ok (.getfield 74, 3) := by decide +kernel
theorem dX0_sum_84 : decode cX0_sum 84 = .ok (.irem, 1) := by decide +kernel
theorem dX0_sum_85 : decode cX0_sum 85 = .ok (.dup2, 1) := by decide +kernel
theorem dX0_sum_86 : decode cX0_sum 86 = .ok (.laload, 1) := by decide +kernel
theorem dX0_sum_87 : decode cX0_sum 87 = .ok (.lconst 1, 1) := by decide +kernel
theorem dX0_sum_88 : decode cX0_sum 88 = .ok (.ladd, 1) := by decide +kernel
theorem dX0_sum_89 : decode cX0_sum 89 = .ok (.lastore, 1) := by decide +kernel
theorem dX0_sum_90 : decode cX0_sum 90 = .ok (.iinc 6 1, 3) := by decide +kernel
theorem dX0_sum_93 : decode cX0_sum 93 = .ok (.goto (-52), 3) := by decide +kernel
theorem dX0_sum_96 : decode cX0_sum 96 = .ok (.aload_n 0, 1) := by decide +kernel
theorem dX0_sum_97 : decode cX0_sum 97 = .ok (.iload_n 1, 1) := by decide +kernel
theorem dX0_sum_98 : decode cX0_sum 98 = .ok (.invokevirtual 83, 3) := by decide +kernel
theorem dX0_sum_101 : decode cX0_sum 101 = .ok (.pop, 1) := by decide +kernel
theorem dX0_sum_102 : decode cX0_sum 102 = .ok (.aload_n 0, 1) := by decide +kernel
theorem dX0_sum_103 : decode cX0_sum 103 = .ok (.getfield 49, 3) := by decide +kernel
theorem dX0_sum_106 : decode cX0_sum 106 = .ok (.iconst 2, 1) := by decide +kernel
theorem dX0_sum_107 : decode cX0_sum 107 = .ok (.isub, 1) := by decide +kernel
theorem dX0_sum_108 : decode cX0_sum 108 = .ok (.ireturn, 1) := by decide +kernel
set_option maxRecDepth 20000 in
theorem ggX0_unit_X0_isHold : GoodIn wsX0_unit wsX0_isHold := goodIn_r _ [6] (by decide +kernel) (by decide +kernel)
set_option maxRecDepth 20000 in
theorem gX0_unit_X0_isHold : GoodIn wsX0_unit (va_wsS RX0 71 yX0_isHold wsX0_isHold) := goodIn_app (goodIn_of _ (by decide +kernel)) ggX0_unit_X0_isHold
set_option maxRecDepth 20000 in
theorem ggX0_unit_J7_fill_d0a16 : GoodIn wsX0_unit wsJ7_fill_d0a16 := goodIn_r _ [10] (by decide +kernel) (by decide +kernel)
set_option maxRecDepth 20000 in
theorem gX0_unit_J7_fill_d0a16 : GoodIn wsX0_unit (va_wsS RX0 77 yJ7_fill_d0a16 wsJ7_fill_d0a16) := goodIn_app (goodIn_of _ (by decide +kernel)) ggX0_unit_J7_fill_d0a16
set_option maxRecDepth 20000 in
theorem ggX0_unit_J9_floorMod_7cf53 : GoodIn wsX0_unit wsJ9_floorMod_7cf53 := goodIn_r _ [14] (by decide +kernel) (by decide +kernel)
set_option maxRecDepth 20000 in
theorem gX0_unit_J9_floorMod_7cf53 : GoodIn wsX0_unit (va_wsS RX0 58 yJ9_floorMod_7cf53 wsJ9_floorMod_7cf53) := goodIn_app (goodIn_of _ (by decide +kernel)) ggX0_unit_J9_floorMod_7cf53
set_option maxRecDepth 20000 in
theorem ggX0_unit_X0_store : GoodIn wsX0_unit wsX0_store := goodIn_r _ [18, 19, 1, 20, 21, 22, 23, 24, 25, 5, 26, 2, 27, 28, 29, 30, 31, 32, 33, 34, 35, 36, 37, 38, 39] (by decide +kernel) (by decide +kernel)
set_option maxRecDepth 20000 in
theorem gX0_unit_X0_store : GoodIn wsX0_unit (wsV RX0 83 RX0 yX0_store wsX0_store) := goodIn_app (goodIn_of _ (by decide +kernel)) ggX0_unit_X0_store
theorem dX0_unit_0 : decode cX0_unit 0 = .ok (.iload_n 1, 1) := by decide +kernel
theorem dX0_unit_1 : decode cX0_unit 1 = .ok (.invokestatic 71, 3) := by decide +kernel
theorem dX0_unit_4 : decode cX0_unit 4 = .ok (.ifCond .ne 6, 3) := by decide +kernel
theorem dX0_unit_7 : decode cX0_unit 7 = .ok (.bipush (-2), 2) := by decide +kernel
theorem dX0_unit_9 : decode cX0_unit 9 = .ok (.ireturn, 1) := by decide +kernel
theorem dX0_unit_10 : decode cX0_unit 10 = .ok (.iload_n 2, 1) := by decide +kernel
theorem dX0_unit_11 : decode cX0_unit 11 = .ok (.sipush (-1000), 3) := by decide +kernel
theorem dX0_unit_14 : decode cX0_unit 14 = .ok (.if_icmp .lt 10, 3) := by decide +kernel
theorem dX0_unit_17 : decode cX0_unit 17 = .ok (.iload_n 2, 1) := by decide +kernel
theorem dX0_unit_18 : decode cX0_unit 18 = .ok (.sipush 1000, 3) := by decide +kernel
theorem dX0_unit_21 : decode cX0_unit 21 = .ok (.if_icmp .le 6, 3) := by decide +kernel
theorem dX0_unit_24 : decode cX0_unit 24 = .ok (.bipush (-3), 2) := by decide +kernel
theorem dX0_unit_26 : decode cX0_unit 26 = .ok (.ireturn, 1) := by decide +kernel
theorem dX0_unit_27 : decode cX0_unit 27 = .ok (.aload_n 0, 1) := by decide +kernel
theorem dX0_unit_28 : decode cX0_unit 28 = .ok (.getfield 27, 3) := by decide +kernel
theorem dX0_unit_31 : decode cX0_unit 31 = .ok (.lconst 0, 1) := by decide +kernel
theorem dX0_unit_32 : decode cX0_unit 32 = .ok (.invokestatic 77, 3) := by decide +kernel
theorem dX0_unit_35 : decode cX0_unit 35 = .ok (.aload_n 0, 1) := by decide +kernel
theorem dX0_unit_36 : decode cX0_unit 36 = .ok (.getfield 27, 3) := by decide +kernel
theorem dX0_unit_39 : decode cX0_unit 39 = .ok (.iload_n 3, 1) := by decide +kernel
theorem dX0_unit_40 : decode cX0_unit 40 = .ok (.aload_n 0, 1) := by decide +kernel
theorem dX0_unit_41 : decode cX0_unit 41 = .ok (.getfield 74, 3) := by decide +kernel
theorem dX0_unit_44 : decode cX0_unit 44 = .ok (.invokestatic 58, 3) := by decide +kernel
theorem dX0_unit_47 : decode cX0_unit 47 = .ok (.iload_n 2, 1) := by decide +kernel
theorem dX0_unit_48 : decode cX0_unit 48 = .ok (.i2l, 1) := by decide +kernel
theorem dX0_unit_49 : decode cX0_unit 49 = .ok (.lastore, 1) := by decide +kernel
theorem dX0_unit_50 : decode cX0_unit 50 = .ok (.aload_n 0, 1) := by decide +kernel
theorem dX0_unit_51 : decode cX0_unit 51 = .ok (.iload_n 1, 1) := by decide +kernel
theorem dX0_unit_52 : decode cX0_unit 52 = .ok (.invokevirtual 83, 3) := by decide +kernel
theorem dX0_unit_55 : decode cX0_unit 55 = .ok (.ireturn, 1) := by decide +kernel
set_option maxRecDepth 20000 in
theorem ggX0_join_X0_isHold : GoodIn wsX0_join wsX0_isHold := goodIn_r _ [5] (by decide +kernel) (by decide +kernel)
set_option maxRecDepth 20000 in
theorem gX0_join_X0_isHold : GoodIn wsX0_join (va_wsS RX0 71 yX0_isHold wsX0_isHold) := goodIn_app (goodIn_of _ (by decide +kernel)) ggX0_join_X0_isHold
set_option maxRecDepth 20000 in
theorem ggX0_join_X0_multiply : GoodIn wsX0_join wsX0_multiply := goodIn_r _ [9, 10, 11, 12, 13, 14, 15, 16, 32, 33, 34, 35, 36, 37, 38, 39, 40, 41, 42, 43] (by decide +kernel) (by decide +kernel)
set_option maxRecDepth 20000 in
theorem gX0_join_X0_multiply : GoodIn wsX0_join (wsV RX0 86 RX0 yX0_multiply wsX0_multiply) := goodIn_app (goodIn_of _ (by decide +kernel)) ggX0_join_X0_multiply
set_option maxRecDepth 20000 in
theorem ggX0_join_X0_add : GoodIn wsX0_join wsX0_add := goodIn_r _ [20, 10, 11, 13, 14, 15, 16, 32, 33, 34, 35, 36, 37, 38, 39, 40, 41, 42, 43] (by decide +kernel) (by decide +kernel)
set_option maxRecDepth 20000 in
theorem gX0_join_X0_add : GoodIn wsX0_join (wsV RX0 90 RX0 yX0_add wsX0_add) := goodIn_app (goodIn_of _ (by decide +kernel)) ggX0_join_X0_add
set_option maxRecDepth 20000 in
theorem ggX0_join_X0_store : GoodIn wsX0_join wsX0_store := goodIn_r _ [24, 11, 10, 25, 26, 1, 27, 28, 29, 4, 30, 12, 31, 32, 33, 34, 35, 36, 37, 38, 39, 40, 41, 42, 43] (by decide +kernel) (by decide +kernel)
set_option maxRecDepth 20000 in
theorem gX0_join_X0_store : GoodIn wsX0_join (wsV RX0 83 RX0 yX0_store wsX0_store) := goodIn_app (goodIn_of _ (by decide +kernel)) ggX0_join_X0_store
theorem dX0_join_0 : decode cX0_join 0 = .ok (.iload_n 1, 1) := by decide +kernel
theorem dX0_join_1 : decode cX0_join 1 = .ok (.invokestatic 71, 3) := by decide +kernel
theorem dX0_join_4 : decode cX0_join 4 = .ok (.ifCond .eq 18, 3) := by decide +kernel
theorem dX0_join_7 : decode cX0_join 7 = .ok (.iload_n 3, 1) := by decide +kernel
theorem dX0_join_8 : decode cX0_join 8 = .ok (.invokestatic 71, 3) := by decide +kernel
theorem dX0_join_11 : decode cX0_join 11 = .ok (.ifCond .eq 11, 3) := by decide +kernel
theorem dX0_join_14 : decode cX0_join 14 = .ok (.iload 4, 2) := by decide +kernel
theorem dX0_join_16 : decode cX0_join 16 = .ok (.invokestatic 71, 3) := by decide +kernel
theorem dX0_join_19 : decode cX0_join 19 = .ok (.ifCond .ne 6, 3) := by decide +kernel
theorem dX0_join_22 : decode cX0_join 22 = .ok (.bipush (-2), 2) := by decide +kernel
theorem dX0_join_24 : decode cX0_join 24 = .ok (.ireturn, 1) := by decide +kernel
theorem dX0_join_25 : decode cX0_join 25 = .ok (.iload_n 2, 1) := by decide +kernel
theorem dX0_join_26 : decode cX0_join 26 = .ok (.ifCond .lt 8, 3) := by decide +kernel
theorem dX0_join_29 : decode cX0_join 29 = .ok (.iload_n 2, 1) := by decide +kernel
theorem dX0_join_30 : decode cX0_join 30 = .ok (.iconst 2, 1) := by decide +kernel
theorem dX0_join_31 : decode cX0_join 31 = .ok (.if_icmp .le 6, 3) := by decide +kernel
theorem dX0_join_34 : decode cX0_join 34 = .ok (.bipush (-3), 2) := by decide +kernel
theorem dX0_join_36 : decode cX0_join 36 = .ok (.ireturn, 1) := by decide +kernel
theorem dX0_join_37 : decode cX0_join 37 = .ok (.iload_n 2, 1) := by decide +kernel
theorem dX0_join_38 : decode cX0_join 38 = .ok (.iconst 2, 1) := by decide +kernel
theorem dX0_join_39 : decode cX0_join 39 = .ok (.if_icmp .ne 24, 3) := by decide +kernel
theorem dX0_join_42 : decode cX0_join 42 = .ok (.aload_n 0, 1) := by decide +kernel
theorem dX0_join_43 : decode cX0_join 43 = .ok (.aload_n 0, 1) := by decide +kernel
theorem dX0_join_44 : decode cX0_join 44 = .ok (.getfield 24, 3) := by decide +kernel
theorem dX0_join_47 : decode cX0_join 47 = .ok (.iload_n 3, 1) := by decide +kernel
theorem dX0_join_48 : decode cX0_join 48 = .ok (.aaload, 1) := by decide +kernel
theorem dX0_join_49 : decode cX0_join 49 = .ok (.aload_n 0, 1) := by decide +kernel
theorem dX0_join_50 : decode cX0_join 50 = .ok (.getfield 24, 3) := by decide +kernel
theorem dX0_join_53 : decode cX0_join 53 = .ok (.iload 4, 2) := by decide +kernel
theorem dX0_join_55 : decode cX0_join 55 = .ok (.aaload, 1) := by decide +kernel
theorem dX0_join_56 : decode cX0_join 56 = .ok (.iconst 1, 1) := by decide +kernel
theorem dX0_join_57 : decode cX0_join 57 = .ok (.invokevirtual 86, 3) := by decide +kernel
theorem dX0_join_60 : decode cX0_join 60 = .ok (.goto 29, 3) := by decide +kernel
theorem dX0_join_63 : decode cX0_join 63 = .ok (.aload_n 0, 1) := by decide +kernel
theorem dX0_join_64 : decode cX0_join 64 = .ok (.aload_n 0, 1) := by decide +kernel
theorem dX0_join_65 : decode cX0_join 65 = .ok (.getfield 24, 3) := by decide +kernel
theorem dX0_join_68 : decode cX0_join 68 = .ok (.iload_n 3, 1) := by decide +kernel
theorem dX0_join_69 : decode cX0_join 69 = .ok (.aaload, 1) := by decide +kernel
theorem dX0_join_70 : decode cX0_join 70 = .ok (.aload_n 0, 1) := by decide +kernel
theorem dX0_join_71 : decode cX0_join 71 = .ok (.getfield 24, 3) := by decide +kernel
theorem dX0_join_74 : decode cX0_join 74 = .ok (.iload 4, 2) := by decide +kernel
theorem dX0_join_76 : decode cX0_join 76 = .ok (.aaload, 1) := by decide +kernel
theorem dX0_join_77 : decode cX0_join 77 = .ok (.iload_n 2, 1) := by decide +kernel
theorem dX0_join_78 : decode cX0_join 78 = .ok (.ifCond .ne 7, 3) := by decide +kernel
theorem dX0_join_81 : decode cX0_join 81 = .ok (.iconst 1, 1) := by decide +kernel
theorem dX0_join_82 : decode cX0_join 82 = .ok (.goto 4, 3) := by decide +kernel
theorem dX0_join_85 : decode cX0_join 85 = .ok (.iconst (-1), 1) := by decide +kernel
theorem dX0_join_86 : decode cX0_join 86 = .ok (.invokevirtual 90, 3) := by decide +kernel
theorem dX0_join_89 : decode cX0_join 89 = .ok (.aload_n 0, 1) := by decide +kernel
theorem dX0_join_90 : decode cX0_join 90 = .ok (.iload_n 1, 1) := by decide +kernel
theorem dX0_join_91 : decode cX0_join 91 = .ok (.invokevirtual 83, 3) := by decide +kernel
theorem dX0_join_94 : decode cX0_join 94 = .ok (.ireturn, 1) := by decide +kernel
set_option maxRecDepth 20000 in
theorem ggX0_turn_X0_isHold : GoodIn wsX0_turn wsX0_isHold := goodIn_r _ [8] (by decide +kernel) (by decide +kernel)
set_option maxRecDepth 20000 in
theorem gX0_turn_X0_isHold : GoodIn wsX0_turn (va_wsS RX0 71 yX0_isHold wsX0_isHold) := goodIn_app (goodIn_of _ (by decide +kernel)) ggX0_turn_X0_isHold
set_option maxRecDepth 20000 in
theorem ggX0_turn_X0_sharesDivisor : GoodIn wsX0_turn wsX0_sharesDivisor := goodIn_r _ [12, 1, 32, 33, 34, 35, 36, 37, 38, 39, 40, 41, 42, 43] (by decide +kernel) (by decide +kernel)
set_option maxRecDepth 20000 in
theorem gX0_turn_X0_sharesDivisor : GoodIn wsX0_turn (wsV RX0 93 RX0 yX0_sharesDivisor wsX0_sharesDivisor) := goodIn_app (goodIn_of _ (by decide +kernel)) ggX0_turn_X0_sharesDivisor
set_option maxRecDepth 20000 in
theorem ggX0_turn_J9_floorMod_7cf53 : GoodIn wsX0_turn wsJ9_floorMod_7cf53 := goodIn_r _ [16] (by decide +kernel) (by decide +kernel)
set_option maxRecDepth 20000 in
theorem gX0_turn_J9_floorMod_7cf53 : GoodIn wsX0_turn (va_wsS RX0 58 yJ9_floorMod_7cf53 wsJ9_floorMod_7cf53) := goodIn_app (goodIn_of _ (by decide +kernel)) ggX0_turn_J9_floorMod_7cf53
set_option maxRecDepth 20000 in
theorem ggX0_turn_J7_fill_d0a16 : GoodIn wsX0_turn wsJ7_fill_d0a16 := goodIn_r _ [20] (by decide +kernel) (by decide +kernel)
set_option maxRecDepth 20000 in
theorem gX0_turn_J7_fill_d0a16 : GoodIn wsX0_turn (va_wsS RX0 77 yJ7_fill_d0a16 wsJ7_fill_d0a16) := goodIn_app (goodIn_of _ (by decide +kernel)) ggX0_turn_J7_fill_d0a16
set_option maxRecDepth 20000 in
theorem ggX0_turn_X0_store : GoodIn wsX0_turn wsX0_store := goodIn_r _ [24, 3, 2, 25, 26, 4, 27, 28, 29, 7, 30, 1, 31, 32, 33, 34, 35, 36, 37, 38, 39, 40, 41, 42, 43] (by decide +kernel) (by decide +kernel)
set_option maxRecDepth 20000 in
theorem gX0_turn_X0_store : GoodIn wsX0_turn (wsV RX0 83 RX0 yX0_store wsX0_store) := goodIn_app (goodIn_of _ (by decide +kernel)) ggX0_turn_X0_store
theorem dX0_turn_0 : decode cX0_turn 0 = .ok (.iload_n 1, 1) := by decide +kernel
theorem dX0_turn_1 : decode cX0_turn 1 = .ok (.invokestatic 71, 3) := by decide +kernel
theorem dX0_turn_4 : decode cX0_turn 4 = .ok (.ifCond .eq 10, 3) := by decide +kernel
theorem dX0_turn_7 : decode cX0_turn 7 = .ok (.iload_n 2, 1) := by decide +kernel
theorem dX0_turn_8 : decode cX0_turn 8 = .ok (.invokestatic 71, 3) := by decide +kernel
theorem dX0_turn_11 : decode cX0_turn 11 = .ok (.ifCond .ne 6, 3) := by decide +kernel
theorem dX0_turn_14 : decode cX0_turn 14 = .ok (.bipush (-2), 2) := by decide +kernel
theorem dX0_turn_16 : decode cX0_turn 16 = .ok (.ireturn, 1) := by decide +kernel
theorem dX0_turn_17 : decode cX0_turn 17 = .ok (.aload_n 0, 1) := by decide +kernel
theorem dX0_turn_18 : decode cX0_turn 18 = .ok (.iload_n 3, 1) := by decide +kernel
theorem dX0_turn_19 : decode cX0_turn 19 = .ok (.invokevirtual 93, 3) := by decide +kernel
theorem dX0_turn_22 : decode cX0_turn 22 = .ok (.ifCond .eq 6, 3) := by decide +kernel
theorem dX0_turn_25 : decode cX0_turn 25 = .ok (.bipush (-3), 2) := by decide +kernel
theorem dX0_turn_27 : decode cX0_turn 27 = .ok (.ireturn, 1) := by decide +kernel
theorem dX0_turn_28 : decode cX0_turn 28 = .ok (.iload_n 3, 1) := by decide +kernel
theorem dX0_turn_29 : decode cX0_turn 29 = .ok (.aload_n 0, 1) := by decide +kernel
theorem dX0_turn_30 : decode cX0_turn 30 = .ok (.getfield 74, 3) := by decide +kernel
theorem dX0_turn_33 : decode cX0_turn 33 = .ok (.invokestatic 58, 3) := by decide +kernel
theorem dX0_turn_36 : decode cX0_turn 36 = .ok (.istore 4, 2) := by decide +kernel
theorem dX0_turn_38 : decode cX0_turn 38 = .ok (.aload_n 0, 1) := by decide +kernel
theorem dX0_turn_39 : decode cX0_turn 39 = .ok (.getfield 27, 3) := by decide +kernel
theorem dX0_turn_42 : decode cX0_turn 42 = .ok (.lconst 0, 1) := by decide +kernel
theorem dX0_turn_43 : decode cX0_turn 43 = .ok (.invokestatic 77, 3) := by decide +kernel
theorem dX0_turn_46 : decode cX0_turn 46 = .ok (.iconst 0, 1) := by decide +kernel
theorem dX0_turn_47 : decode cX0_turn 47 = .ok (.istore 5, 2) := by decide +kernel
theorem dX0_turn_49 : decode cX0_turn 49 = .ok (.iload 5, 2) := by decide +kernel
theorem dX0_turn_51 : decode cX0_turn 51 = .ok (.aload_n 0, 1) := by decide +kernel
theorem dX0_turn_52 : decode cX0_turn 52 = .ok (.getfield 55, 3) := by decide +kernel
theorem dX0_turn_55 : decode cX0_turn 55 = .ok (.if_icmp .ge 37, 3) := by decide +kernel
theorem dX0_turn_58 : decode cX0_turn 58 = .ok (.aload_n 0, 1) := by decide +kernel
theorem dX0_turn_59 : decode cX0_turn 59 = .ok (.getfield 27, 3) := by decide +kernel
theorem dX0_turn_62 : decode cX0_turn 62 = .ok (.iload 5, 2) := by decide +kernel
theorem dX0_turn_64 : decode cX0_turn 64 = .ok (.iload 4, 2) := by decide +kernel
theorem dX0_turn_66 : decode cX0_turn 66 = .ok (.imul, 1) := by decide +kernel
theorem dX0_turn_67 : decode cX0_turn 67 = .ok (.aload_n 0, 1) := by decide +kernel
theorem dX0_turn_68 : decode cX0_turn 68 = .ok (.getfield 74, 3) := by decide +kernel
theorem dX0_turn_71 : decode cX0_turn 71 = .ok (.irem, 1) := by decide +kernel
theorem dX0_turn_72 : decode cX0_turn 72 = .ok (.dup2, 1) := by decide +kernel
theorem dX0_turn_73 : decode cX0_turn 73 = .ok (.laload, 1) := by decide +kernel
theorem dX0_turn_74 : decode cX0_turn 74 = .ok (.aload_n 0, 1) := by decide +kernel
theorem dX0_turn_75 : decode cX0_turn 75 = .ok (.getfield 24, 3) := by decide +kernel
theorem dX0_turn_78 : decode cX0_turn 78 = .ok (.iload_n 2, 1) := by decide +kernel
theorem dX0_turn_79 : decode cX0_turn 79 = .ok (.aaload, 1) := by decide +kernel
theorem dX0_turn_80 : decode cX0_turn 80 = .ok (.iload 5, 2) := by decide +kernel
theorem dX0_turn_82 : decode cX0_turn 82 = .ok (.iaload, 1) := by decide +kernel
theorem dX0_turn_83 : decode cX0_turn 83 = .ok (.i2l, 1) := by decide +kernel
theorem dX0_turn_84 : decode cX0_turn 84 = .ok (.ladd, 1) := by decide +kernel
theorem dX0_turn_85 : decode cX0_turn 85 = .ok (.lastore, 1) := by decide +kernel
theorem dX0_turn_86 : decode cX0_turn 86 = .ok (.iinc 5 1, 3) := by decide +kernel
theorem dX0_turn_89 : decode cX0_turn 89 = .ok (.goto (-40), 3) := by decide +kernel
theorem dX0_turn_92 : decode cX0_turn 92 = .ok (.aload_n 0, 1) := by decide +kernel
theorem dX0_turn_93 : decode cX0_turn 93 = .ok (.iload_n 1, 1) := by decide +kernel
theorem dX0_turn_94 : decode cX0_turn 94 = .ok (.invokevirtual 83, 3) := by decide +kernel
theorem dX0_turn_97 : decode cX0_turn 97 = .ok (.ireturn, 1) := by decide +kernel
set_option maxRecDepth 20000 in
theorem ggX0_at_X0_isHold : GoodIn wsX0_at wsX0_isHold := goodIn_r _ [7] (by decide +kernel) (by decide +kernel)
set_option maxRecDepth 20000 in
theorem gX0_at_X0_isHold : GoodIn wsX0_at (va_wsS RX0 71 yX0_isHold wsX0_isHold) := goodIn_app (goodIn_of _ (by decide +kernel)) ggX0_at_X0_isHold
theorem dX0_at_0 : decode cX0_at 0 = .ok (.iload_n 1, 1) := by decide +kernel
theorem dX0_at_1 : decode cX0_at 1 = .ok (.invokestatic 71, 3) := by decide +kernel
theorem dX0_at_4 : decode cX0_at 4 = .ok (.ifCond .eq 15, 3) := by decide +kernel
theorem dX0_at_7 : decode cX0_at 7 = .ok (.iload_n 2, 1) := by decide +kernel
theorem dX0_at_8 : decode cX0_at 8 = .ok (.ifCond .lt 11, 3) := by decide +kernel
theorem dX0_at_11 : decode cX0_at 11 = .ok (.iload_n 2, 1) := by decide +kernel
theorem dX0_at_12 : decode cX0_at 12 = .ok (.aload_n 0, 1) := by decide +kernel
theorem dX0_at_13 : decode cX0_at 13 = .ok (.getfield 55, 3) := by decide +kernel
theorem dX0_at_16 : decode cX0_at 16 = .ok (.if_icmp .lt 6, 3) := by decide +kernel
theorem dX0_at_19 : decode cX0_at 19 = .ok (.ldc 96, 2) := by decide +kernel
theorem dX0_at_21 : decode cX0_at 21 = .ok (.ireturn, 1) := by decide +kernel
theorem dX0_at_22 : decode cX0_at 22 = .ok (.aload_n 0, 1) := by decide +kernel
theorem dX0_at_23 : decode cX0_at 23 = .ok (.getfield 24, 3) := by decide +kernel
theorem dX0_at_26 : decode cX0_at 26 = .ok (.iload_n 1, 1) := by decide +kernel
theorem dX0_at_27 : decode cX0_at 27 = .ok (.aaload, 1) := by decide +kernel
theorem dX0_at_28 : decode cX0_at 28 = .ok (.iload_n 2, 1) := by decide +kernel
theorem dX0_at_29 : decode cX0_at 29 = .ok (.iaload, 1) := by decide +kernel
theorem dX0_at_30 : decode cX0_at 30 = .ok (.ireturn, 1) := by decide +kernel
set_option maxRecDepth 20000 in
theorem ggX0_same_X0_isHold : GoodIn wsX0_same wsX0_isHold := goodIn_r _ [6] (by decide +kernel) (by decide +kernel)
set_option maxRecDepth 20000 in
theorem gX0_same_X0_isHold : GoodIn wsX0_same (va_wsS RX0 71 yX0_isHold wsX0_isHold) := goodIn_app (goodIn_of _ (by decide +kernel)) ggX0_same_X0_isHold
theorem dX0_same_0 : decode cX0_same 0 = .ok (.iload_n 1, 1) := by decide +kernel
theorem dX0_same_1 : decode cX0_same 1 = .ok (.invokestatic 71, 3) := by decide +kernel
theorem dX0_same_4 : decode cX0_same 4 = .ok (.ifCond .eq 10, 3) := by decide +kernel
theorem dX0_same_7 : decode cX0_same 7 = .ok (.iload_n 2, 1) := by decide +kernel
theorem dX0_same_8 : decode cX0_same 8 = .ok (.invokestatic 71, 3) := by decide +kernel
theorem dX0_same_11 : decode cX0_same 11 = .ok (.ifCond .ne 6, 3) := by decide +kernel
theorem dX0_same_14 : decode cX0_same 14 = .ok (.bipush (-2), 2) := by decide +kernel
theorem dX0_same_16 : decode cX0_same 16 = .ok (.ireturn, 1) := by decide +kernel
theorem dX0_same_17 : decode cX0_same 17 = .ok (.iconst 0, 1) := by decide +kernel
theorem dX0_same_18 : decode cX0_same 18 = .ok (.istore_n 3, 1) := by decide +kernel
theorem dX0_same_19 : decode cX0_same 19 = .ok (.iload_n 3, 1) := by decide +kernel
theorem dX0_same_20 : decode cX0_same 20 = .ok (.aload_n 0, 1) := by decide +kernel
theorem dX0_same_21 : decode cX0_same 21 = .ok (.getfield 55, 3) := by decide +kernel
theorem dX0_same_24 : decode cX0_same 24 = .ok (.if_icmp .ge 30, 3) := by decide +kernel
theorem dX0_same_27 : decode cX0_same 27 = .ok (.aload_n 0, 1) := by decide +kernel
theorem dX0_same_28 : decode cX0_same 28 = .ok (.getfield 24, 3) := by decide +kernel
theorem dX0_same_31 : decode cX0_same 31 = .ok (.iload_n 1, 1) := by decide +kernel
theorem dX0_same_32 : decode cX0_same 32 = .ok (.aaload, 1) := by decide +kernel
theorem dX0_same_33 : decode cX0_same 33 = .ok (.iload_n 3, 1) := by decide +kernel
theorem dX0_same_34 : decode cX0_same 34 = .ok (.iaload, 1) := by decide +kernel
theorem dX0_same_35 : decode cX0_same 35 = .ok (.aload_n 0, 1) := by decide +kernel
theorem dX0_same_36 : decode cX0_same 36 = .ok (.getfield 24, 3) := by decide +kernel
theorem dX0_same_39 : decode cX0_same 39 = .ok (.iload_n 2, 1) := by decide +kernel
theorem dX0_same_40 : decode cX0_same 40 = .ok (.aaload, 1) := by decide +kernel
theorem dX0_same_41 : decode cX0_same 41 = .ok (.iload_n 3, 1) := by decide +kernel
theorem dX0_same_42 : decode cX0_same 42 = .ok (.iaload, 1) := by decide +kernel
theorem dX0_same_43 : decode cX0_same 43 = .ok (.if_icmp .eq 5, 3) := by decide +kernel
theorem dX0_same_46 : decode cX0_same 46 = .ok (.iconst 0, 1) := by decide +kernel
theorem dX0_same_47 : decode cX0_same 47 = .ok (.ireturn, 1) := by decide +kernel
theorem dX0_same_48 : decode cX0_same 48 = .ok (.iinc 3 1, 3) := by decide +kernel
theorem dX0_same_51 : decode cX0_same 51 = .ok (.goto (-32), 3) := by decide +kernel
theorem dX0_same_54 : decode cX0_same 54 = .ok (.iconst 1, 1) := by decide +kernel
theorem dX0_same_55 : decode cX0_same 55 = .ok (.ireturn, 1) := by decide +kernel
set_option maxRecDepth 20000 in
theorem ggX0_size_X0_isHold : GoodIn wsX0_size wsX0_isHold := goodIn_r _ [9] (by decide +kernel) (by decide +kernel)
set_option maxRecDepth 20000 in
theorem gX0_size_X0_isHold : GoodIn wsX0_size (va_wsS RX0 71 yX0_isHold wsX0_isHold) := goodIn_app (goodIn_of _ (by decide +kernel)) ggX0_size_X0_isHold
set_option maxRecDepth 20000 in
theorem ggX0_size_X0_multiply : GoodIn wsX0_size wsX0_multiply := goodIn_r _ [13, 5, 4, 3, 14, 15, 16, 17, 23, 24, 25, 26, 27, 28, 29, 30, 31, 32, 33, 34] (by decide +kernel) (by decide +kernel)
set_option maxRecDepth 20000 in
theorem gX0_size_X0_multiply : GoodIn wsX0_size (wsV RX0 86 RX0 yX0_multiply wsX0_multiply) := goodIn_app (goodIn_of _ (by decide +kernel)) ggX0_size_X0_multiply
set_option maxRecDepth 20000 in
theorem ggX0_size_X0_reduce : GoodIn wsX0_size wsX0_reduce := goodIn_r _ [21, 3, 4, 5, 22, 23, 24, 25, 26, 27, 28, 29, 30, 31, 32, 33, 34] (by decide +kernel) (by decide +kernel)
set_option maxRecDepth 20000 in
theorem gX0_size_X0_reduce : GoodIn wsX0_size (wsV RX0 99 RX0 yX0_reduce wsX0_reduce) := goodIn_app (goodIn_of _ (by decide +kernel)) ggX0_size_X0_reduce
theorem dX0_size_0 : decode cX0_size 0 = .ok (.iload_n 1, 1) := by decide +kernel
theorem dX0_size_1 : decode cX0_size 1 = .ok (.invokestatic 71, 3) := by decide +kernel
theorem dX0_size_4 : decode cX0_size 4 = .ok (.ifCond .ne 7, 3) := by decide +kernel
theorem dX0_size_7 : decode cX0_size 7 = .ok (.ldc2_w 97, 3) := by decide +kernel
theorem dX0_size_10 : decode cX0_size 10 = .ok (.lreturn, 1) := by decide +kernel
theorem dX0_size_11 : decode cX0_size 11 = .ok (.aload_n 0, 1) := by decide +kernel
theorem dX0_size_12 : decode cX0_size 12 = .ok (.aload_n 0, 1) := by decide +kernel
theorem dX0_size_13 : decode cX0_size 13 = .ok (.getfield 24, 3) := by decide +kernel
theorem dX0_size_16 : decode cX0_size 16 = .ok (.iload_n 1, 1) := by decide +kernel
theorem dX0_size_17 : decode cX0_size 17 = .ok (.aaload, 1) := by decide +kernel
theorem dX0_size_18 : decode cX0_size 18 = .ok (.aload_n 0, 1) := by decide +kernel
theorem dX0_size_19 : decode cX0_size 19 = .ok (.getfield 24, 3) := by decide +kernel
theorem dX0_size_22 : decode cX0_size 22 = .ok (.iload_n 1, 1) := by decide +kernel
theorem dX0_size_23 : decode cX0_size 23 = .ok (.aaload, 1) := by decide +kernel
theorem dX0_size_24 : decode cX0_size 24 = .ok (.aload_n 0, 1) := by decide +kernel
theorem dX0_size_25 : decode cX0_size 25 = .ok (.getfield 74, 3) := by decide +kernel
theorem dX0_size_28 : decode cX0_size 28 = .ok (.iconst 1, 1) := by decide +kernel
theorem dX0_size_29 : decode cX0_size 29 = .ok (.isub, 1) := by decide +kernel
theorem dX0_size_30 : decode cX0_size 30 = .ok (.invokevirtual 86, 3) := by decide +kernel
theorem dX0_size_33 : decode cX0_size 33 = .ok (.aload_n 0, 1) := by decide +kernel
theorem dX0_size_34 : decode cX0_size 34 = .ok (.invokevirtual 99, 3) := by decide +kernel
theorem dX0_size_37 : decode cX0_size 37 = .ok (.iconst 1, 1) := by decide +kernel
theorem dX0_size_38 : decode cX0_size 38 = .ok (.istore_n 2, 1) := by decide +kernel
theorem dX0_size_39 : decode cX0_size 39 = .ok (.iload_n 2, 1) := by decide +kernel
theorem dX0_size_40 : decode cX0_size 40 = .ok (.aload_n 0, 1) := by decide +kernel
theorem dX0_size_41 : decode cX0_size 41 = .ok (.getfield 55, 3) := by decide +kernel
theorem dX0_size_44 : decode cX0_size 44 = .ok (.if_icmp .ge 24, 3) := by decide +kernel
theorem dX0_size_47 : decode cX0_size 47 = .ok (.aload_n 0, 1) := by decide +kernel
theorem dX0_size_48 : decode cX0_size 48 = .ok (.getfield 27, 3) := by decide +kernel
theorem dX0_size_51 : decode cX0_size 51 = .ok (.iload_n 2, 1) := by decide +kernel
theorem dX0_size_52 : decode cX0_size 52 = .ok (.laload, 1) := by decide +kernel
theorem dX0_size_53 : decode cX0_size 53 = .ok (.lconst 0, 1) := by decide +kernel
theorem dX0_size_54 : decode cX0_size 54 = .ok (.lcmp, 1) := by decide +kernel
theorem dX0_size_55 : decode cX0_size 55 = .ok (.ifCond .eq 7, 3) := by decide +kernel
theorem dX0_size_58 : decode cX0_size 58 = .ok (.ldc2_w 97, 3) := by decide +kernel
theorem dX0_size_61 : decode cX0_size 61 = .ok (.lreturn, 1) := by decide +kernel
theorem dX0_size_62 : decode cX0_size 62 = .ok (.iinc 2 1, 3) := by decide +kernel
theorem dX0_size_65 : decode cX0_size 65 = .ok (.goto (-26), 3) := by decide +kernel
theorem dX0_size_68 : decode cX0_size 68 = .ok (.aload_n 0, 1) := by decide +kernel
theorem dX0_size_69 : decode cX0_size 69 = .ok (.getfield 27, 3) := by decide +kernel
theorem dX0_size_72 : decode cX0_size 72 = .ok (.iconst 0, 1) := by decide +kernel
theorem dX0_size_73 : decode cX0_size 73 = .ok (.laload, 1) := by decide +kernel
theorem dX0_size_74 : decode cX0_size 74 = .ok (.lreturn, 1) := by decide +kernel
set_option maxRecDepth 20000 in
theorem ggX0_solutions_J9_floorMod_7cf53 : GoodIn wsX0_solutions wsJ9_floorMod_7cf53 := goodIn_r _ [6] (by decide +kernel) (by decide +kernel)
set_option maxRecDepth 20000 in
theorem gX0_solutions_J9_floorMod_7cf53 : GoodIn wsX0_solutions (va_wsS RX0 58 yJ9_floorMod_7cf53 wsJ9_floorMod_7cf53) := goodIn_app (goodIn_of _ (by decide +kernel)) ggX0_solutions_J9_floorMod_7cf53
set_option maxRecDepth 20000 in
theorem ggX0_solutions_J7_fill_53178 : GoodIn wsX0_solutions wsJ7_fill_53178 := goodIn_r _ [10] (by decide +kernel) (by decide +kernel)
set_option maxRecDepth 20000 in
theorem gX0_solutions_J7_fill_53178 : GoodIn wsX0_solutions (va_wsS RX0 102 yJ7_fill_53178 wsJ7_fill_53178) := goodIn_app (goodIn_of _ (by decide +kernel)) ggX0_solutions_J7_fill_53178
set_option maxRecDepth 20000 in
theorem ggX0_solutions_X0_likePower : GoodIn wsX0_solutions wsX0_likePower := goodIn_r _ [15, 16, 17, 18, 1, 19, 20, 21, 22, 23, 24, 25, 26, 27, 28, 29, 30] (by decide +kernel) (by decide +kernel)
set_option maxRecDepth 20000 in
theorem gX0_solutions_X0_likePower : GoodIn wsX0_solutions (wsV RX0 105 RX0 yX0_likePower wsX0_likePower) := goodIn_app (goodIn_of _ (by decide +kernel)) ggX0_solutions_X0_likePower
theorem dX0_solutions_0 : decode cX0_solutions 0 = .ok (.iload_n 1, 1) := by decide +kernel
theorem dX0_solutions_1 : decode cX0_solutions 1 = .ok (.aload_n 0, 1) := by decide +kernel
theorem dX0_solutions_2 : decode cX0_solutions 2 = .ok (.getfield 49, 3) := by decide +kernel
theorem dX0_solutions_5 : decode cX0_solutions 5 = .ok (.invokestatic 58, 3) := by decide +kernel
theorem dX0_solutions_8 : decode cX0_solutions 8 = .ok (.istore 4, 2) := by decide +kernel
theorem dX0_solutions_10 : decode cX0_solutions 10 = .ok (.iload_n 2, 1) := by decide +kernel
theorem dX0_solutions_11 : decode cX0_solutions 11 = .ok (.aload_n 0, 1) := by decide +kernel
theorem dX0_solutions_12 : decode cX0_solutions 12 = .ok (.getfield 49, 3) := by decide +kernel
theorem dX0_solutions_15 : decode cX0_solutions 15 = .ok (.invokestatic 58, 3) := by decide +kernel
theorem dX0_solutions_18 : decode cX0_solutions 18 = .ok (.istore 5, 2) := by decide +kernel
theorem dX0_solutions_20 : decode cX0_solutions 20 = .ok (.iload_n 3, 1) := by decide +kernel
theorem dX0_solutions_21 : decode cX0_solutions 21 = .ok (.aload_n 0, 1) := by decide +kernel
theorem dX0_solutions_22 : decode cX0_solutions 22 = .ok (.getfield 49, 3) := by decide +kernel
theorem dX0_solutions_25 : decode cX0_solutions 25 = .ok (.invokestatic 58, 3) := by decide +kernel
theorem dX0_solutions_28 : decode cX0_solutions 28 = .ok (.istore 6, 2) := by decide +kernel
theorem dX0_solutions_30 : decode cX0_solutions 30 = .ok (.aload_n 0, 1) := by decide +kernel
theorem dX0_solutions_31 : decode cX0_solutions 31 = .ok (.getfield 19, 3) := by decide +kernel
theorem dX0_solutions_34 : decode cX0_solutions 34 = .ok (.iconst 0, 1) := by decide +kernel
theorem dX0_solutions_35 : decode cX0_solutions 35 = .ok (.invokestatic 102, 3) := by decide +kernel
theorem dX0_solutions_38 : decode cX0_solutions 38 = .ok (.iconst 0, 1) := by decide +kernel
theorem dX0_solutions_39 : decode cX0_solutions 39 = .ok (.istore 7, 2) := by decide +kernel
theorem dX0_solutions_41 : decode cX0_solutions 41 = .ok (.iload 7, 2) := by decide +kernel
theorem dX0_solutions_43 : decode cX0_solutions 43 = .ok (.aload_n 0, 1) := by decide +kernel
theorem dX0_solutions_44 : decode cX0_solutions 44 = .ok (.getfield 49, 3) := by decide +kernel
theorem dX0_solutions_47 : decode cX0_solutions 47 = .ok (.if_icmp .ge 32, 3) := by decide +kernel
theorem dX0_solutions_50 : decode cX0_solutions 50 = .ok (.aload_n 0, 1) := by decide +kernel
theorem dX0_solutions_51 : decode cX0_solutions 51 = .ok (.getfield 19, 3) := by decide +kernel
theorem dX0_solutions_54 : decode cX0_solutions 54 = .ok (.iload 4, 2) := by decide +kernel
theorem dX0_solutions_56 : decode cX0_solutions 56 = .ok (.aload_n 0, 1) := by decide +kernel
theorem dX0_solutions_57 : decode cX0_solutions 57 = .ok (.iload 7, 2) := by decide +kernel
theorem dX0_solutions_59 : decode cX0_solutions 59 = .ok (.invokevirtual 105, 3) := by decide +kernel
theorem dX0_solutions_62 : decode cX0_solutions 62 = .ok (.imul, 1) := by decide +kernel
theorem dX0_solutions_63 : decode cX0_solutions 63 = .ok (.aload_n 0, 1) := by decide +kernel
theorem dX0_solutions_64 : decode cX0_solutions 64 = .ok (.getfield 49, 3) := by decide +kernel
theorem dX0_solutions_67 : decode cX0_solutions 67 = .ok (.irem, 1) := by decide +kernel
theorem dX0_solutions_68 : decode cX0_solutions 68 = .ok (.dup2, 1) := by decide +kernel
theorem dX0_solutions_69 : decode cX0_solutions 69 = .ok (.iaload, 1) := by decide +kernel
theorem dX0_solutions_70 : decode cX0_solutions 70 = .ok (.iconst 1, 1) := by decide +kernel
theorem dX0_solutions_71 : decode cX0_solutions 71 = .ok (.iadd, 1) := by decide +kernel
theorem dX0_solutions_72 : decode cX0_solutions 72 = .ok (.iastore, 1) := by decide +kernel
theorem dX0_solutions_73 : decode cX0_solutions 73 = .ok (.iinc 7 1, 3) := by decide +kernel
theorem dX0_solutions_76 : decode cX0_solutions 76 = .ok (.goto (-35), 3) := by decide +kernel
theorem dX0_solutions_79 : decode cX0_solutions 79 = .ok (.iconst 0, 1) := by decide +kernel
theorem dX0_solutions_80 : decode cX0_solutions 80 = .ok (.istore 7, 2) := by decide +kernel
theorem dX0_solutions_82 : decode cX0_solutions 82 = .ok (.iconst 0, 1) := by decide +kernel
theorem dX0_solutions_83 : decode cX0_solutions 83 = .ok (.istore 8, 2) := by decide +kernel
theorem dX0_solutions_85 : decode cX0_solutions 85 = .ok (.iload 8, 2) := by decide +kernel
theorem dX0_solutions_87 : decode cX0_solutions 87 = .ok (.aload_n 0, 1) := by decide +kernel
theorem dX0_solutions_88 : decode cX0_solutions 88 = .ok (.getfield 49, 3) := by decide +kernel
theorem dX0_solutions_91 : decode cX0_solutions 91 = .ok (.if_icmp .ge 38, 3) := by decide +kernel
theorem dX0_solutions_94 : decode cX0_solutions 94 = .ok (.iload 7, 2) := by decide +kernel
theorem dX0_solutions_96 : decode cX0_solutions 96 = .ok (.aload_n 0, 1) := by decide +kernel
theorem dX0_solutions_97 : decode cX0_solutions 97 = .ok (.getfield 19, 3) := by decide +kernel
theorem dX0_solutions_100 : decode cX0_solutions 100 = .ok (.iload 6, 2) := by decide +kernel
theorem dX0_solutions_102 : decode cX0_solutions 102 = .ok (.iload 5, 2) := by decide +kernel
theorem dX0_solutions_104 : decode cX0_solutions 104 = .ok (.aload_n 0, 1) := by decide +kernel
theorem dX0_solutions_105 : decode cX0_solutions 105 = .ok (.iload 8, 2) := by decide +kernel
theorem dX0_solutions_107 : decode cX0_solutions 107 = .ok (.invokevirtual 105, 3) := by decide +kernel
theorem dX0_solutions_110 : decode cX0_solutions 110 = .ok (.imul, 1) := by decide +kernel
theorem dX0_solutions_111 : decode cX0_solutions 111 = .ok (.isub, 1) := by decide +kernel
theorem dX0_solutions_112 : decode cX0_solutions 112 = .ok (.aload_n 0, 1) := by decide +kernel
theorem dX0_solutions_113 : decode cX0_solutions 113 = .ok (.getfield 49, 3) := by decide +kernel
theorem dX0_solutions_116 : decode cX0_solutions 116 = .ok (.invokestatic 58, 3) := by decide +kernel
theorem dX0_solutions_119 : decode cX0_solutions 119 = .ok (.iaload, 1) := by decide +kernel
theorem dX0_solutions_120 : decode cX0_solutions 120 = .ok (.iadd, 1) := by decide +kernel
theorem dX0_solutions_121 : decode cX0_solutions 121 = .ok (.istore 7, 2) := by decide +kernel
theorem dX0_solutions_123 : decode cX0_solutions 123 = .ok (.iinc 8 1, 3) := by decide +kernel
theorem dX0_solutions_126 : decode cX0_solutions 126 = .ok (.goto (-41), 3) := by decide +kernel
theorem dX0_solutions_129 : decode cX0_solutions 129 = .ok (.iload 7, 2) := by decide +kernel
theorem dX0_solutions_131 : decode cX0_solutions 131 = .ok (.ireturn, 1) := by decide +kernel
set_option maxRecDepth 20000 in
theorem ggX0_rows_J7_fill_d0a16 : GoodIn wsX0_rows wsJ7_fill_d0a16 := goodIn_r _ [13] (by decide +kernel) (by decide +kernel)
set_option maxRecDepth 20000 in
theorem gX0_rows_J7_fill_d0a16 : GoodIn wsX0_rows (va_wsS RX0 77 yJ7_fill_d0a16 wsJ7_fill_d0a16) := goodIn_app (goodIn_of _ (by decide +kernel)) ggX0_rows_J7_fill_d0a16
set_option maxRecDepth 20000 in
theorem ggX0_rows_X0_lengthened : GoodIn wsX0_rows wsX0_lengthened := goodIn_r _ [18, 19, 5, 2, 3, 20, 21, 22, 17, 23, 24, 25, 26, 27, 28, 29, 30, 31, 32, 33, 34, 35, 36] (by decide +kernel) (by decide +kernel)
set_option maxRecDepth 20000 in
theorem gX0_rows_X0_lengthened : GoodIn wsX0_rows (wsV RX0 110 RX0 yX0_lengthened wsX0_lengthened) := goodIn_app (goodIn_of _ (by decide +kernel)) ggX0_rows_X0_lengthened
theorem dX0_rows_0 : decode cX0_rows 0 = .ok (.iload_n 1, 1) := by decide +kernel
theorem dX0_rows_1 : decode cX0_rows 1 = .ok (.ifCond .lt 9, 3) := by decide +kernel
theorem dX0_rows_4 : decode cX0_rows 4 = .ok (.iload_n 1, 1) := by decide +kernel
theorem dX0_rows_5 : decode cX0_rows 5 = .ok (.bipush 6, 2) := by decide +kernel
theorem dX0_rows_7 : decode cX0_rows 7 = .ok (.if_icmp .le 7, 3) := by decide +kernel
theorem dX0_rows_10 : decode cX0_rows 10 = .ok (.ldc2_w 108, 3) := by decide +kernel
theorem dX0_rows_13 : decode cX0_rows 13 = .ok (.lreturn, 1) := by decide +kernel
theorem dX0_rows_14 : decode cX0_rows 14 = .ok (.aload_n 0, 1) := by decide +kernel
theorem dX0_rows_15 : decode cX0_rows 15 = .ok (.getfield 31, 3) := by decide +kernel
theorem dX0_rows_18 : decode cX0_rows 18 = .ok (.lconst 0, 1) := by decide +kernel
theorem dX0_rows_19 : decode cX0_rows 19 = .ok (.invokestatic 77, 3) := by decide +kernel
theorem dX0_rows_22 : decode cX0_rows 22 = .ok (.lconst 1, 1) := by decide +kernel
theorem dX0_rows_23 : decode cX0_rows 23 = .ok (.lstore_n 2, 1) := by decide +kernel
theorem dX0_rows_24 : decode cX0_rows 24 = .ok (.iconst 1, 1) := by decide +kernel
theorem dX0_rows_25 : decode cX0_rows 25 = .ok (.istore 4, 2) := by decide +kernel
theorem dX0_rows_27 : decode cX0_rows 27 = .ok (.iload 4, 2) := by decide +kernel
theorem dX0_rows_29 : decode cX0_rows 29 = .ok (.iload_n 1, 1) := by decide +kernel
theorem dX0_rows_30 : decode cX0_rows 30 = .ok (.if_icmp .gt 70, 3) := by decide +kernel
theorem dX0_rows_33 : decode cX0_rows 33 = .ok (.iconst 0, 1) := by decide +kernel
theorem dX0_rows_34 : decode cX0_rows 34 = .ok (.istore 5, 2) := by decide +kernel
theorem dX0_rows_36 : decode cX0_rows 36 = .ok (.iload 5, 2) := by decide +kernel
theorem dX0_rows_38 : decode cX0_rows 38 = .ok (.aload_n 0, 1) := by decide +kernel
theorem dX0_rows_39 : decode cX0_rows 39 = .ok (.getfield 74, 3) := by decide +kernel
theorem dX0_rows_42 : decode cX0_rows 42 = .ok (.if_icmp .ge 28, 3) := by decide +kernel
theorem dX0_rows_45 : decode cX0_rows 45 = .ok (.aload_n 0, 1) := by decide +kernel
theorem dX0_rows_46 : decode cX0_rows 46 = .ok (.getfield 34, 3) := by decide +kernel
theorem dX0_rows_49 : decode cX0_rows 49 = .ok (.iload 5, 2) := by decide +kernel
theorem dX0_rows_51 : decode cX0_rows 51 = .ok (.aload_n 0, 1) := by decide +kernel
theorem dX0_rows_52 : decode cX0_rows 52 = .ok (.lload_n 2, 1) := by decide +kernel
theorem dX0_rows_53 : decode cX0_rows 53 = .ok (.aload_n 0, 1) := by decide +kernel
theorem dX0_rows_54 : decode cX0_rows 54 = .ok (.getfield 13, 3) := by decide +kernel
theorem dX0_rows_57 : decode cX0_rows 57 = .ok (.iload 5, 2) := by decide +kernel
theorem dX0_rows_59 : decode cX0_rows 59 = .ok (.iaload, 1) := by decide +kernel
theorem dX0_rows_60 : decode cX0_rows 60 = .ok (.invokevirtual 110, 3) := by decide +kernel
theorem dX0_rows_63 : decode cX0_rows 63 = .ok (.lastore, 1) := by decide +kernel
theorem dX0_rows_64 : decode cX0_rows 64 = .ok (.iinc 5 1, 3) := by decide +kernel
theorem dX0_rows_67 : decode cX0_rows 67 = .ok (.goto (-31), 3) := by decide +kernel
theorem dX0_rows_70 : decode cX0_rows 70 = .ok (.aload_n 0, 1) := by decide +kernel
theorem dX0_rows_71 : decode cX0_rows 71 = .ok (.lload_n 2, 1) := by decide +kernel
theorem dX0_rows_72 : decode cX0_rows 72 = .ok (.iconst 0, 1) := by decide +kernel
theorem dX0_rows_73 : decode cX0_rows 73 = .ok (.invokevirtual 110, 3) := by decide +kernel
theorem dX0_rows_76 : decode cX0_rows 76 = .ok (.lstore_n 2, 1) := by decide +kernel
theorem dX0_rows_77 : decode cX0_rows 77 = .ok (.aload_n 0, 1) := by decide +kernel
theorem dX0_rows_78 : decode cX0_rows 78 = .ok (.getfield 34, 3) := by decide +kernel
theorem dX0_rows_81 : decode cX0_rows 81 = .ok (.iconst 0, 1) := by decide +kernel
theorem dX0_rows_82 : decode cX0_rows 82 = .ok (.aload_n 0, 1) := by decide +kernel
theorem dX0_rows_83 : decode cX0_rows 83 = .ok (.getfield 31, 3) := by decide +kernel
theorem dX0_rows_86 : decode cX0_rows 86 = .ok (.iconst 0, 1) := by decide +kernel
theorem dX0_rows_87 : decode cX0_rows 87 = .ok (.aload_n 0, 1) := by decide +kernel
theorem dX0_rows_88 : decode cX0_rows 88 = .ok (.getfield 74, 3) := by decide +kernel
theorem dX0_rows_91 : decode cX0_rows 91 = .ok (.invokestatic 114, 3) := by decide +kernel
theorem dX0_rows_94 : decode cX0_rows 94 = .ok (.iinc 4 1, 3) := by decide +kernel
theorem dX0_rows_97 : decode cX0_rows 97 = .ok (.goto (-70), 3) := by decide +kernel
theorem dX0_rows_100 : decode cX0_rows 100 = .ok (.lload_n 2, 1) := by decide +kernel
theorem dX0_rows_101 : decode cX0_rows 101 = .ok (.lreturn, 1) := by decide +kernel
set_option maxRecDepth 20000 in
theorem ggX0_over_X0_isSet : GoodIn wsX0_over wsX0_isSet := goodIn_r _ [7, 8, 30, 31, 32, 33, 34, 35, 36, 37, 38, 39, 40, 41] (by decide +kernel) (by decide +kernel)
set_option maxRecDepth 20000 in
theorem gX0_over_X0_isSet : GoodIn wsX0_over (wsV RX0 120 RX0 yX0_isSet wsX0_isSet) := goodIn_app (goodIn_of _ (by decide +kernel)) ggX0_over_X0_isSet
set_option maxRecDepth 20000 in
theorem ggX0_over_X0_isSign : GoodIn wsX0_over wsX0_isSign := goodIn_r _ [11] (by decide +kernel) (by decide +kernel)
set_option maxRecDepth 20000 in
theorem gX0_over_X0_isSign : GoodIn wsX0_over (va_wsS RX0 123 yX0_isSign wsX0_isSign) := goodIn_app (goodIn_of _ (by decide +kernel)) ggX0_over_X0_isSign
set_option maxRecDepth 20000 in
theorem ggX0_over_X0_fillSigns : GoodIn wsX0_over wsX0_fillSigns := goodIn_r _ [15, 16, 2, 17, 18, 19, 6, 20, 21, 8, 30, 31, 32, 33, 34, 35, 36, 37, 38, 39, 40, 41] (by decide +kernel) (by decide +kernel)
set_option maxRecDepth 20000 in
theorem gX0_over_X0_fillSigns : GoodIn wsX0_over (wsV RX0 126 RX0 yX0_fillSigns wsX0_fillSigns) := goodIn_app (goodIn_of _ (by decide +kernel)) ggX0_over_X0_fillSigns
set_option maxRecDepth 20000 in
theorem ggX0_over_J9_floorMod_7cf53 : GoodIn wsX0_over wsJ9_floorMod_7cf53 := goodIn_r _ [25] (by decide +kernel) (by decide +kernel)
set_option maxRecDepth 20000 in
theorem gX0_over_J9_floorMod_7cf53 : GoodIn wsX0_over (va_wsS RX0 58 yJ9_floorMod_7cf53 wsJ9_floorMod_7cf53) := goodIn_app (goodIn_of _ (by decide +kernel)) ggX0_over_J9_floorMod_7cf53
set_option maxRecDepth 20000 in
theorem ggX0_over_X0_agreement : GoodIn wsX0_over wsX0_agreement := goodIn_r _ [29, 2, 16, 30, 31, 32, 33, 34, 35, 36, 37, 38, 39, 40, 41] (by decide +kernel) (by decide +kernel)
set_option maxRecDepth 20000 in
theorem gX0_over_X0_agreement : GoodIn wsX0_over (wsV RX0 130 RX0 yX0_agreement wsX0_agreement) := goodIn_app (goodIn_of _ (by decide +kernel)) ggX0_over_X0_agreement
theorem dX0_over_0 : decode cX0_over 0 = .ok (.aload_n 0, 1) := by decide +kernel
theorem dX0_over_1 : decode cX0_over 1 = .ok (.iload_n 1, 1) := by decide +kernel
theorem dX0_over_2 : decode cX0_over 2 = .ok (.invokevirtual 120, 3) := by decide +kernel
theorem dX0_over_5 : decode cX0_over 5 = .ok (.ifCond .ne 6, 3) := by decide +kernel
theorem dX0_over_8 : decode cX0_over 8 = .ok (.ldc 96, 2) := by decide +kernel
theorem dX0_over_10 : decode cX0_over 10 = .ok (.ireturn, 1) := by decide +kernel
theorem dX0_over_11 : decode cX0_over 11 = .ok (.iload_n 2, 1) := by decide +kernel
theorem dX0_over_12 : decode cX0_over 12 = .ok (.invokestatic 123, 3) := by decide +kernel
theorem dX0_over_15 : decode cX0_over 15 = .ok (.ifCond .ne 6, 3) := by decide +kernel
theorem dX0_over_18 : decode cX0_over 18 = .ok (.ldc 96, 2) := by decide +kernel
theorem dX0_over_20 : decode cX0_over 20 = .ok (.ireturn, 1) := by decide +kernel
theorem dX0_over_21 : decode cX0_over 21 = .ok (.aload_n 0, 1) := by decide +kernel
theorem dX0_over_22 : decode cX0_over 22 = .ok (.iload_n 1, 1) := by decide +kernel
theorem dX0_over_23 : decode cX0_over 23 = .ok (.iload_n 2, 1) := by decide +kernel
theorem dX0_over_24 : decode cX0_over 24 = .ok (.invokevirtual 126, 3) := by decide +kernel
theorem dX0_over_27 : decode cX0_over 27 = .ok (.aload_n 0, 1) := by decide +kernel
theorem dX0_over_28 : decode cX0_over 28 = .ok (.iload_n 3, 1) := by decide +kernel
theorem dX0_over_29 : decode cX0_over 29 = .ok (.aload_n 0, 1) := by decide +kernel
theorem dX0_over_30 : decode cX0_over 30 = .ok (.getfield 49, 3) := by decide +kernel
theorem dX0_over_33 : decode cX0_over 33 = .ok (.invokestatic 58, 3) := by decide +kernel
theorem dX0_over_36 : decode cX0_over 36 = .ok (.invokevirtual 130, 3) := by decide +kernel
theorem dX0_over_39 : decode cX0_over 39 = .ok (.ireturn, 1) := by decide +kernel
set_option maxRecDepth 20000 in
theorem ggX0_peak_X0_isSet : GoodIn wsX0_peak wsX0_isSet := goodIn_r _ [14, 1, 33, 34, 35, 36, 37, 38, 39, 40, 41, 42, 43, 44] (by decide +kernel) (by decide +kernel)
set_option maxRecDepth 20000 in
theorem gX0_peak_X0_isSet : GoodIn wsX0_peak (wsV RX0 120 RX0 yX0_isSet wsX0_isSet) := goodIn_app (goodIn_of _ (by decide +kernel)) ggX0_peak_X0_isSet
set_option maxRecDepth 20000 in
theorem ggX0_peak_X0_isSign : GoodIn wsX0_peak wsX0_isSign := goodIn_r _ [17] (by decide +kernel) (by decide +kernel)
set_option maxRecDepth 20000 in
theorem gX0_peak_X0_isSign : GoodIn wsX0_peak (va_wsS RX0 123 yX0_isSign wsX0_isSign) := goodIn_app (goodIn_of _ (by decide +kernel)) ggX0_peak_X0_isSign
set_option maxRecDepth 20000 in
theorem ggX0_peak_X0_fillSigns : GoodIn wsX0_peak wsX0_fillSigns := goodIn_r _ [21, 22, 23, 24, 25, 26, 13, 27, 28, 1, 33, 34, 35, 36, 37, 38, 39, 40, 41, 42, 43, 44] (by decide +kernel) (by decide +kernel)
set_option maxRecDepth 20000 in
theorem gX0_peak_X0_fillSigns : GoodIn wsX0_peak (wsV RX0 126 RX0 yX0_fillSigns wsX0_fillSigns) := goodIn_app (goodIn_of _ (by decide +kernel)) ggX0_peak_X0_fillSigns
set_option maxRecDepth 20000 in
theorem ggX0_peak_X0_agreement : GoodIn wsX0_peak wsX0_agreement := goodIn_r _ [32, 23, 22, 33, 34, 35, 36, 37, 38, 39, 40, 41, 42, 43, 44] (by decide +kernel) (by decide +kernel)
set_option maxRecDepth 20000 in
theorem gX0_peak_X0_agreement : GoodIn wsX0_peak (wsV RX0 130 RX0 yX0_agreement wsX0_agreement) := goodIn_app (goodIn_of _ (by decide +kernel)) ggX0_peak_X0_agreement
theorem dX0_peak_0 : decode cX0_peak 0 = .ok (.aload_n 0, 1) := by decide +kernel
theorem dX0_peak_1 : decode cX0_peak 1 = .ok (.iload_n 1, 1) := by decide +kernel
theorem dX0_peak_2 : decode cX0_peak 2 = .ok (.invokevirtual 120, 3) := by decide +kernel
theorem dX0_peak_5 : decode cX0_peak 5 = .ok (.ifCond .ne 6, 3) := by decide +kernel
theorem dX0_peak_8 : decode cX0_peak 8 = .ok (.bipush (-2), 2) := by decide +kernel
theorem dX0_peak_10 : decode cX0_peak 10 = .ok (.ireturn, 1) := by decide +kernel
theorem dX0_peak_11 : decode cX0_peak 11 = .ok (.iload_n 2, 1) := by decide +kernel
theorem dX0_peak_12 : decode cX0_peak 12 = .ok (.invokestatic 123, 3) := by decide +kernel
theorem dX0_peak_15 : decode cX0_peak 15 = .ok (.ifCond .ne 6, 3) := by decide +kernel
theorem dX0_peak_18 : decode cX0_peak 18 = .ok (.bipush (-3), 2) := by decide +kernel
theorem dX0_peak_20 : decode cX0_peak 20 = .ok (.ireturn, 1) := by decide +kernel
theorem dX0_peak_21 : decode cX0_peak 21 = .ok (.aload_n 0, 1) := by decide +kernel
theorem dX0_peak_22 : decode cX0_peak 22 = .ok (.iload_n 1, 1) := by decide +kernel
theorem dX0_peak_23 : decode cX0_peak 23 = .ok (.iload_n 2, 1) := by decide +kernel
theorem dX0_peak_24 : decode cX0_peak 24 = .ok (.invokevirtual 126, 3) := by decide +kernel
theorem dX0_peak_27 : decode cX0_peak 27 = .ok (.iconst 0, 1) := by decide +kernel
theorem dX0_peak_28 : decode cX0_peak 28 = .ok (.istore_n 3, 1) := by decide +kernel
theorem dX0_peak_29 : decode cX0_peak 29 = .ok (.iconst 0, 1) := by decide +kernel
theorem dX0_peak_30 : decode cX0_peak 30 = .ok (.istore 4, 2) := by decide +kernel
theorem dX0_peak_32 : decode cX0_peak 32 = .ok (.iload 4, 2) := by decide +kernel
theorem dX0_peak_34 : decode cX0_peak 34 = .ok (.aload_n 0, 1) := by decide +kernel
theorem dX0_peak_35 : decode cX0_peak 35 = .ok (.getfield 74, 3) := by decide +kernel
theorem dX0_peak_38 : decode cX0_peak 38 = .ok (.if_icmp .ge 28, 3) := by decide +kernel
theorem dX0_peak_41 : decode cX0_peak 41 = .ok (.iload_n 3, 1) := by decide +kernel
theorem dX0_peak_42 : decode cX0_peak 42 = .ok (.aload_n 0, 1) := by decide +kernel
theorem dX0_peak_43 : decode cX0_peak 43 = .ok (.aload_n 0, 1) := by decide +kernel
theorem dX0_peak_44 : decode cX0_peak 44 = .ok (.getfield 13, 3) := by decide +kernel
theorem dX0_peak_47 : decode cX0_peak 47 = .ok (.iload 4, 2) := by decide +kernel
theorem dX0_peak_49 : decode cX0_peak 49 = .ok (.iaload, 1) := by decide +kernel
theorem dX0_peak_50 : decode cX0_peak 50 = .ok (.invokevirtual 130, 3) := by decide +kernel
theorem dX0_peak_53 : decode cX0_peak 53 = .ok (.invokestatic 133, 3) := by decide +kernel
theorem dX0_peak_56 : decode cX0_peak 56 = .ok (.invokestatic 136, 3) := by decide +kernel
theorem dX0_peak_59 : decode cX0_peak 59 = .ok (.istore_n 3, 1) := by decide +kernel
theorem dX0_peak_60 : decode cX0_peak 60 = .ok (.iinc 4 1, 3) := by decide +kernel
theorem dX0_peak_63 : decode cX0_peak 63 = .ok (.goto (-31), 3) := by decide +kernel
theorem dX0_peak_66 : decode cX0_peak 66 = .ok (.iload_n 3, 1) := by decide +kernel
theorem dX0_peak_67 : decode cX0_peak 67 = .ok (.ireturn, 1) := by decide +kernel
set_option maxRecDepth 20000 in
theorem ggX0_even_X0_isSet : GoodIn wsX0_even wsX0_isSet := goodIn_r _ [7, 2, 23, 24, 25, 26, 27, 28, 29, 30, 31, 32, 33, 34] (by decide +kernel) (by decide +kernel)
set_option maxRecDepth 20000 in
theorem gX0_even_X0_isSet : GoodIn wsX0_even (wsV RX0 120 RX0 yX0_isSet wsX0_isSet) := goodIn_app (goodIn_of _ (by decide +kernel)) ggX0_even_X0_isSet
set_option maxRecDepth 20000 in
theorem ggX0_even_X0_fillSigns : GoodIn wsX0_even wsX0_fillSigns := goodIn_r _ [11, 12, 13, 14, 15, 16, 6, 17, 18, 2, 23, 24, 25, 26, 27, 28, 29, 30, 31, 32, 33, 34] (by decide +kernel) (by decide +kernel)
set_option maxRecDepth 20000 in
theorem gX0_even_X0_fillSigns : GoodIn wsX0_even (wsV RX0 126 RX0 yX0_fillSigns wsX0_fillSigns) := goodIn_app (goodIn_of _ (by decide +kernel)) ggX0_even_X0_fillSigns
set_option maxRecDepth 20000 in
theorem ggX0_even_X0_differences : GoodIn wsX0_even wsX0_differences := goodIn_r _ [22, 13, 12, 23, 24, 25, 26, 27, 28, 29, 30, 31, 32, 33, 34] (by decide +kernel) (by decide +kernel)
set_option maxRecDepth 20000 in
theorem gX0_even_X0_differences : GoodIn wsX0_even (wsV RX0 139 RX0 yX0_differences wsX0_differences) := goodIn_app (goodIn_of _ (by decide +kernel)) ggX0_even_X0_differences
theorem dX0_even_0 : decode cX0_even 0 = .ok (.aload_n 0, 1) := by decide +kernel
theorem dX0_even_1 : decode cX0_even 1 = .ok (.iload_n 1, 1) := by decide +kernel
theorem dX0_even_2 : decode cX0_even 2 = .ok (.invokevirtual 120, 3) := by decide +kernel
theorem dX0_even_5 : decode cX0_even 5 = .ok (.ifCond .ne 6, 3) := by decide +kernel
theorem dX0_even_8 : decode cX0_even 8 = .ok (.bipush (-2), 2) := by decide +kernel
theorem dX0_even_10 : decode cX0_even 10 = .ok (.ireturn, 1) := by decide +kernel
theorem dX0_even_11 : decode cX0_even 11 = .ok (.aload_n 0, 1) := by decide +kernel
theorem dX0_even_12 : decode cX0_even 12 = .ok (.iload_n 1, 1) := by decide +kernel
theorem dX0_even_13 : decode cX0_even 13 = .ok (.iconst (-1), 1) := by decide +kernel
theorem dX0_even_14 : decode cX0_even 14 = .ok (.invokevirtual 126, 3) := by decide +kernel
theorem dX0_even_17 : decode cX0_even 17 = .ok (.aload_n 0, 1) := by decide +kernel
theorem dX0_even_18 : decode cX0_even 18 = .ok (.aload_n 0, 1) := by decide +kernel
theorem dX0_even_19 : decode cX0_even 19 = .ok (.getfield 13, 3) := by decide +kernel
theorem dX0_even_22 : decode cX0_even 22 = .ok (.iconst 0, 1) := by decide +kernel
theorem dX0_even_23 : decode cX0_even 23 = .ok (.iaload, 1) := by decide +kernel
theorem dX0_even_24 : decode cX0_even 24 = .ok (.invokevirtual 139, 3) := by decide +kernel
theorem dX0_even_27 : decode cX0_even 27 = .ok (.istore_n 2, 1) := by decide +kernel
theorem dX0_even_28 : decode cX0_even 28 = .ok (.iconst 1, 1) := by decide +kernel
theorem dX0_even_29 : decode cX0_even 29 = .ok (.istore_n 3, 1) := by decide +kernel
theorem dX0_even_30 : decode cX0_even 30 = .ok (.iload_n 3, 1) := by decide +kernel
theorem dX0_even_31 : decode cX0_even 31 = .ok (.aload_n 0, 1) := by decide +kernel
theorem dX0_even_32 : decode cX0_even 32 = .ok (.getfield 74, 3) := by decide +kernel
theorem dX0_even_35 : decode cX0_even 35 = .ok (.if_icmp .ge 25, 3) := by decide +kernel
theorem dX0_even_38 : decode cX0_even 38 = .ok (.aload_n 0, 1) := by decide +kernel
theorem dX0_even_39 : decode cX0_even 39 = .ok (.aload_n 0, 1) := by decide +kernel
theorem dX0_even_40 : decode cX0_even 40 = .ok (.getfield 13, 3) := by decide +kernel
theorem dX0_even_43 : decode cX0_even 43 = .ok (.iload_n 3, 1) := by decide +kernel
theorem dX0_even_44 : decode cX0_even 44 = .ok (.iaload, 1) := by decide +kernel
theorem dX0_even_45 : decode cX0_even 45 = .ok (.invokevirtual 139, 3) := by decide +kernel
theorem dX0_even_48 : decode cX0_even 48 = .ok (.iload_n 2, 1) := by decide +kernel
theorem dX0_even_49 : decode cX0_even 49 = .ok (.if_icmp .eq 5, 3) := by decide +kernel
theorem dX0_even_52 : decode cX0_even 52 = .ok (.iconst (-1), 1) := by decide +kernel
theorem dX0_even_53 : decode cX0_even 53 = .ok (.ireturn, 1) := by decide +kernel
theorem dX0_even_54 : decode cX0_even 54 = .ok (.iinc 3 1, 3) := by decide +kernel
theorem dX0_even_57 : decode cX0_even 57 = .ok (.goto (-27), 3) := by decide +kernel
theorem dX0_even_60 : decode cX0_even 60 = .ok (.iload_n 2, 1) := by decide +kernel
theorem dX0_even_61 : decode cX0_even 61 = .ok (.ireturn, 1) := by decide +kernel
set_option maxRecDepth 20000 in
theorem ggX0_classes_X0_classNumberBySums : GoodIn wsX0_classes wsX0_classNumberBySums := goodIn_r _ [6, 1, 7, 16, 17, 18, 19, 20, 21, 22, 23, 24, 25, 26, 27] (by decide +kernel) (by decide +kernel)
set_option maxRecDepth 20000 in
theorem gX0_classes_X0_classNumberBySums : GoodIn wsX0_classes (wsV RX0 142 RX0 yX0_classNumberBySums wsX0_classNumberBySums) := goodIn_app (goodIn_of _ (by decide +kernel)) ggX0_classes_X0_classNumberBySums
set_option maxRecDepth 20000 in
theorem ggX0_classes_X0_classNumberByForms : GoodIn wsX0_classes wsX0_classNumberByForms := goodIn_r _ [11, 1, 12, 13, 14, 5, 15, 16, 17, 18, 19, 20, 21, 22, 23, 24, 25, 26, 27] (by decide +kernel) (by decide +kernel)
set_option maxRecDepth 20000 in
theorem gX0_classes_X0_classNumberByForms : GoodIn wsX0_classes (wsV RX0 146 RX0 yX0_classNumberByForms wsX0_classNumberByForms) := goodIn_app (goodIn_of _ (by decide +kernel)) ggX0_classes_X0_classNumberByForms
theorem dX0_classes_0 : decode cX0_classes 0 = .ok (.iload_n 1, 1) := by decide +kernel
theorem dX0_classes_1 : decode cX0_classes 1 = .ok (.ifCond .lt 8, 3) := by decide +kernel
theorem dX0_classes_4 : decode cX0_classes 4 = .ok (.iload_n 1, 1) := by decide +kernel
theorem dX0_classes_5 : decode cX0_classes 5 = .ok (.iconst 1, 1) := by decide +kernel
theorem dX0_classes_6 : decode cX0_classes 6 = .ok (.if_icmp .le 6, 3) := by decide +kernel
theorem dX0_classes_9 : decode cX0_classes 9 = .ok (.bipush (-3), 2) := by decide +kernel
theorem dX0_classes_11 : decode cX0_classes 11 = .ok (.ireturn, 1) := by decide +kernel
theorem dX0_classes_12 : decode cX0_classes 12 = .ok (.aload_n 0, 1) := by decide +kernel
theorem dX0_classes_13 : decode cX0_classes 13 = .ok (.getfield 49, 3) := by decide +kernel
theorem dX0_classes_16 : decode cX0_classes 16 = .ok (.iconst 4, 1) := by decide +kernel
theorem dX0_classes_17 : decode cX0_classes 17 = .ok (.irem, 1) := by decide +kernel
theorem dX0_classes_18 : decode cX0_classes 18 = .ok (.iconst 3, 1) := by decide +kernel
theorem dX0_classes_19 : decode cX0_classes 19 = .ok (.if_icmp .ne 11, 3) := by decide +kernel
theorem dX0_classes_22 : decode cX0_classes 22 = .ok (.aload_n 0, 1) := by decide +kernel
theorem dX0_classes_23 : decode cX0_classes 23 = .ok (.getfield 49, 3) := by decide +kernel
theorem dX0_classes_26 : decode cX0_classes 26 = .ok (.iconst 3, 1) := by decide +kernel
theorem dX0_classes_27 : decode cX0_classes 27 = .ok (.if_icmp .ne 6, 3) := by decide +kernel
theorem dX0_classes_30 : decode cX0_classes 30 = .ok (.bipush (-4), 2) := by decide +kernel
theorem dX0_classes_32 : decode cX0_classes 32 = .ok (.ireturn, 1) := by decide +kernel
theorem dX0_classes_33 : decode cX0_classes 33 = .ok (.iload_n 1, 1) := by decide +kernel
theorem dX0_classes_34 : decode cX0_classes 34 = .ok (.ifCond .ne 10, 3) := by decide +kernel
theorem dX0_classes_37 : decode cX0_classes 37 = .ok (.aload_n 0, 1) := by decide +kernel
theorem dX0_classes_38 : decode cX0_classes 38 = .ok (.invokevirtual 142, 3) := by decide +kernel
theorem dX0_classes_41 : decode cX0_classes 41 = .ok (.goto 7, 3) := by decide +kernel
theorem dX0_classes_44 : decode cX0_classes 44 = .ok (.aload_n 0, 1) := by decide +kernel
theorem dX0_classes_45 : decode cX0_classes 45 = .ok (.invokevirtual 146, 3) := by decide +kernel
theorem dX0_classes_48 : decode cX0_classes 48 = .ok (.ireturn, 1) := by decide +kernel
theorem dX0_count_0 : decode cX0_count 0 = .ok (.iload_n 1, 1) := by decide +kernel
theorem dX0_count_1 : decode cX0_count 1 = .ok (.tableswitch 51 0 3 #[31, 36, 41, 46], 31) := by decide +kernel
theorem dX0_count_32 : decode cX0_count 32 = .ok (.aload_n 0, 1) := by decide +kernel
theorem dX0_count_33 : decode cX0_count 33 = .ok (.getfield 49, 3) := by decide +kernel
theorem dX0_count_36 : decode cX0_count 36 = .ok (.ireturn, 1) := by decide +kernel
theorem dX0_count_37 : decode cX0_count 37 = .ok (.aload_n 0, 1) := by decide +kernel
theorem dX0_count_38 : decode cX0_count 38 = .ok (.getfield 45, 3) := by decide +kernel
theorem dX0_count_41 : decode cX0_count 41 = .ok (.ireturn, 1) := by decide +kernel
theorem dX0_count_42 : decode cX0_count 42 = .ok (.aload_n 0, 1) := by decide +kernel
theorem dX0_count_43 : decode cX0_count 43 = .ok (.getfield 74, 3) := by decide +kernel
theorem dX0_count_46 : decode cX0_count 46 = .ok (.ireturn, 1) := by decide +kernel
theorem dX0_count_47 : decode cX0_count 47 = .ok (.aload_n 0, 1) := by decide +kernel
theorem dX0_count_48 : decode cX0_count 48 = .ok (.getfield 55, 3) := by decide +kernel
theorem dX0_count_51 : decode cX0_count 51 = .ok (.ireturn, 1) := by decide +kernel
theorem dX0_count_52 : decode cX0_count 52 = .ok (.bipush (-3), 2) := by decide +kernel
theorem dX0_count_54 : decode cX0_count 54 = .ok (.ireturn, 1) := by decide +kernel
set_option maxRecDepth 20000 in
theorem ggX0_setPrime_X0_leastRoot : GoodIn wsX0_setPrime wsX0_leastRoot := goodIn_r _ [9, 1, 10, 11, 12, 8, 13, 29, 30, 31, 32, 33, 34, 35, 36, 37, 38, 39, 40] (by decide +kernel) (by decide +kernel)
set_option maxRecDepth 20000 in
theorem gX0_setPrime_X0_leastRoot : GoodIn wsX0_setPrime (wsV RX0 149 RX0 yX0_leastRoot wsX0_leastRoot) := goodIn_app (goodIn_of _ (by decide +kernel)) ggX0_setPrime_X0_leastRoot
set_option maxRecDepth 20000 in
theorem ggX0_setPrime_X0_setDegree : GoodIn wsX0_setPrime wsX0_setDegree := goodIn_r _ [17, 18, 19, 20, 21, 22, 23, 8, 24, 25, 26, 27, 28, 29, 30, 31, 32, 33, 34, 35, 36, 37, 38, 39, 40] (by decide +kernel) (by decide +kernel)
set_option maxRecDepth 20000 in
theorem gX0_setPrime_X0_setDegree : GoodIn wsX0_setPrime (wsV RX0 52 RX0 yX0_setDegree wsX0_setDegree) := goodIn_app (goodIn_of _ (by decide +kernel)) ggX0_setPrime_X0_setDegree
theorem dX0_setPrime_0 : decode cX0_setPrime 0 = .ok (.aload_n 0, 1) := by decide +kernel
theorem dX0_setPrime_1 : decode cX0_setPrime 1 = .ok (.iload_n 1, 1) := by decide +kernel
theorem dX0_setPrime_2 : decode cX0_setPrime 2 = .ok (.putfield 49, 3) := by decide +kernel
theorem dX0_setPrime_5 : decode cX0_setPrime 5 = .ok (.aload_n 0, 1) := by decide +kernel
theorem dX0_setPrime_6 : decode cX0_setPrime 6 = .ok (.aload_n 0, 1) := by decide +kernel
theorem dX0_setPrime_7 : decode cX0_setPrime 7 = .ok (.invokevirtual 149, 3) := by decide +kernel
theorem dX0_setPrime_10 : decode cX0_setPrime 10 = .ok (.putfield 45, 3) := by decide +kernel
theorem dX0_setPrime_13 : decode cX0_setPrime 13 = .ok (.aload_n 0, 1) := by decide +kernel
theorem dX0_setPrime_14 : decode cX0_setPrime 14 = .ok (.getfield 9, 3) := by decide +kernel
theorem dX0_setPrime_17 : decode cX0_setPrime 17 = .ok (.iconst 0, 1) := by decide +kernel
theorem dX0_setPrime_18 : decode cX0_setPrime 18 = .ok (.iconst (-1), 1) := by decide +kernel
theorem dX0_setPrime_19 : decode cX0_setPrime 19 = .ok (.iastore, 1) := by decide +kernel
theorem dX0_setPrime_20 : decode cX0_setPrime 20 = .ok (.iconst 1, 1) := by decide +kernel
theorem dX0_setPrime_21 : decode cX0_setPrime 21 = .ok (.istore_n 2, 1) := by decide +kernel
theorem dX0_setPrime_22 : decode cX0_setPrime 22 = .ok (.iconst 0, 1) := by decide +kernel
theorem dX0_setPrime_23 : decode cX0_setPrime 23 = .ok (.istore_n 3, 1) := by decide +kernel
theorem dX0_setPrime_24 : decode cX0_setPrime 24 = .ok (.iload_n 3, 1) := by decide +kernel
theorem dX0_setPrime_25 : decode cX0_setPrime 25 = .ok (.aload_n 0, 1) := by decide +kernel
theorem dX0_setPrime_26 : decode cX0_setPrime 26 = .ok (.getfield 49, 3) := by decide +kernel
theorem dX0_setPrime_29 : decode cX0_setPrime 29 = .ok (.iconst 1, 1) := by decide +kernel
theorem dX0_setPrime_30 : decode cX0_setPrime 30 = .ok (.isub, 1) := by decide +kernel
theorem dX0_setPrime_31 : decode cX0_setPrime 31 = .ok (.if_icmp .ge 35, 3) := by decide +kernel
theorem dX0_setPrime_34 : decode cX0_setPrime 34 = .ok (.aload_n 0, 1) := by decide +kernel
theorem dX0_setPrime_35 : decode cX0_setPrime 35 = .ok (.getfield 13, 3) := by decide +kernel
theorem dX0_setPrime_38 : decode cX0_setPrime 38 = .ok (.iload_n 3, 1) := by decide +kernel
theorem dX0_setPrime_39 : decode cX0_setPrime 39 = .ok (.iload_n 2, 1) := by decide +kernel
theorem dX0_setPrime_40 : decode cX0_setPrime 40 = .ok (.iastore, 1) := by decide +kernel
theorem dX0_setPrime_41 : decode cX0_setPrime 41 = .ok (.aload_n 0, 1) := by decide +kernel
theorem dX0_setPrime_42 : decode cX0_setPrime 42 = .ok (.getfield 9, 3) := by decide +kernel
theorem dX0_setPrime_45 : decode cX0_setPrime 45 = .ok (.iload_n 2, 1) := by decide +kernel
theorem dX0_setPrime_46 : decode cX0_setPrime 46 = .ok (.iload_n 3, 1) := by decide +kernel
theorem dX0_setPrime_47 : decode cX0_setPrime 47 = .ok (.iastore, 1) := by decide +kernel
theorem dX0_setPrime_48 : decode cX0_setPrime 48 = .ok (.iload_n 2, 1) := by decide +kernel
theorem dX0_setPrime_49 : decode cX0_setPrime 49 = .ok (.aload_n 0, 1) := by decide +kernel
theorem dX0_setPrime_50 : decode cX0_setPrime 50 = .ok (.getfield 45, 3) := by decide +kernel
theorem dX0_setPrime_53 : decode cX0_setPrime 53 = .ok (.imul, 1) := by decide +kernel
theorem dX0_setPrime_54 : decode cX0_setPrime 54 = .ok (.aload_n 0, 1) := by decide +kernel
theorem dX0_setPrime_55 : decode cX0_setPrime 55 = .ok (.getfield 49, 3) := by decide +kernel
theorem dX0_setPrime_58 : decode cX0_setPrime 58 = .ok (.irem, 1) := by decide +kernel
theorem dX0_setPrime_59 : decode cX0_setPrime 59 = .ok (.istore_n 2, 1) := by decide +kernel
theorem dX0_setPrime_60 : decode cX0_setPrime 60 = .ok (.iinc 3 1, 3) := by decide +kernel
theorem dX0_setPrime_63 : decode cX0_setPrime 63 = .ok (.goto (-39), 3) := by decide +kernel
theorem dX0_setPrime_66 : decode cX0_setPrime 66 = .ok (.aload_n 0, 1) := by decide +kernel
theorem dX0_setPrime_67 : decode cX0_setPrime 67 = .ok (.iconst 2, 1) := by decide +kernel
theorem dX0_setPrime_68 : decode cX0_setPrime 68 = .ok (.invokevirtual 52, 3) := by decide +kernel
theorem dX0_setPrime_71 : decode cX0_setPrime 71 = .ok (.return_, 1) := by decide +kernel
set_option maxRecDepth 20000 in
theorem ggX0_setDegree_X0_sharesDivisor : GoodIn wsX0_setDegree wsX0_sharesDivisor := goodIn_r _ [8, 1, 13, 14, 15, 16, 17, 18, 19, 20, 21, 22, 23, 24] (by decide +kernel) (by decide +kernel)
set_option maxRecDepth 20000 in
theorem gX0_setDegree_X0_sharesDivisor : GoodIn wsX0_setDegree (wsV RX0 93 RX0 yX0_sharesDivisor wsX0_sharesDivisor) := goodIn_app (goodIn_of _ (by decide +kernel)) ggX0_setDegree_X0_sharesDivisor
set_option maxRecDepth 20000 in
theorem ggX0_setDegree_J7_fill_53178 : GoodIn wsX0_setDegree wsJ7_fill_53178 := goodIn_r _ [12] (by decide +kernel) (by decide +kernel)
set_option maxRecDepth 20000 in
theorem gX0_setDegree_J7_fill_53178 : GoodIn wsX0_setDegree (va_wsS RX0 102 yJ7_fill_53178 wsJ7_fill_53178) := goodIn_app (goodIn_of _ (by decide +kernel)) ggX0_setDegree_J7_fill_53178
theorem dX0_setDegree_0 : decode cX0_setDegree 0 = .ok (.aload_n 0, 1) := by decide +kernel
theorem dX0_setDegree_1 : decode cX0_setDegree 1 = .ok (.iload_n 1, 1) := by decide +kernel
theorem dX0_setDegree_2 : decode cX0_setDegree 2 = .ok (.putfield 74, 3) := by decide +kernel
theorem dX0_setDegree_5 : decode cX0_setDegree 5 = .ok (.aload_n 0, 1) := by decide +kernel
theorem dX0_setDegree_6 : decode cX0_setDegree 6 = .ok (.iconst 0, 1) := by decide +kernel
theorem dX0_setDegree_7 : decode cX0_setDegree 7 = .ok (.putfield 55, 3) := by decide +kernel
theorem dX0_setDegree_10 : decode cX0_setDegree 10 = .ok (.iconst 1, 1) := by decide +kernel
theorem dX0_setDegree_11 : decode cX0_setDegree 11 = .ok (.istore_n 2, 1) := by decide +kernel
theorem dX0_setDegree_12 : decode cX0_setDegree 12 = .ok (.iload_n 2, 1) := by decide +kernel
theorem dX0_setDegree_13 : decode cX0_setDegree 13 = .ok (.aload_n 0, 1) := by decide +kernel
theorem dX0_setDegree_14 : decode cX0_setDegree 14 = .ok (.getfield 74, 3) := by decide +kernel
theorem dX0_setDegree_17 : decode cX0_setDegree 17 = .ok (.if_icmp .gt 27, 3) := by decide +kernel
theorem dX0_setDegree_20 : decode cX0_setDegree 20 = .ok (.aload_n 0, 1) := by decide +kernel
theorem dX0_setDegree_21 : decode cX0_setDegree 21 = .ok (.iload_n 2, 1) := by decide +kernel
theorem dX0_setDegree_22 : decode cX0_setDegree 22 = .ok (.invokevirtual 93, 3) := by decide +kernel
theorem dX0_setDegree_25 : decode cX0_setDegree 25 = .ok (.ifCond .ne 13, 3) := by decide +kernel
theorem dX0_setDegree_28 : decode cX0_setDegree 28 = .ok (.aload_n 0, 1) := by decide +kernel
theorem dX0_setDegree_29 : decode cX0_setDegree 29 = .ok (.dup, 1) := by decide +kernel
theorem dX0_setDegree_30 : decode cX0_setDegree 30 = .ok (.getfield 55, 3) := by decide +kernel
theorem dX0_setDegree_33 : decode cX0_setDegree 33 = .ok (.iconst 1, 1) := by decide +kernel
theorem dX0_setDegree_34 : decode cX0_setDegree 34 = .ok (.iadd, 1) := by decide +kernel
theorem dX0_setDegree_35 : decode cX0_setDegree 35 = .ok (.putfield 55, 3) := by decide +kernel
theorem dX0_setDegree_38 : decode cX0_setDegree 38 = .ok (.iinc 2 1, 3) := by decide +kernel
theorem dX0_setDegree_41 : decode cX0_setDegree 41 = .ok (.goto (-29), 3) := by decide +kernel
theorem dX0_setDegree_44 : decode cX0_setDegree 44 = .ok (.iconst 0, 1) := by decide +kernel
theorem dX0_setDegree_45 : decode cX0_setDegree 45 = .ok (.istore_n 2, 1) := by decide +kernel
theorem dX0_setDegree_46 : decode cX0_setDegree 46 = .ok (.iload_n 2, 1) := by decide +kernel
theorem dX0_setDegree_47 : decode cX0_setDegree 47 = .ok (.bipush 6, 2) := by decide +kernel
theorem dX0_setDegree_49 : decode cX0_setDegree 49 = .ok (.if_icmp .ge 19, 3) := by decide +kernel
theorem dX0_setDegree_52 : decode cX0_setDegree 52 = .ok (.aload_n 0, 1) := by decide +kernel
theorem dX0_setDegree_53 : decode cX0_setDegree 53 = .ok (.getfield 24, 3) := by decide +kernel
theorem dX0_setDegree_56 : decode cX0_setDegree 56 = .ok (.iload_n 2, 1) := by decide +kernel
theorem dX0_setDegree_57 : decode cX0_setDegree 57 = .ok (.aaload, 1) := by decide +kernel
theorem dX0_setDegree_58 : decode cX0_setDegree 58 = .ok (.iconst 0, 1) := by decide +kernel
theorem dX0_setDegree_59 : decode cX0_setDegree 59 = .ok (.invokestatic 102, 3) := by decide +kernel
theorem dX0_setDegree_62 : decode cX0_setDegree 62 = .ok (.iinc 2 1, 3) := by decide +kernel
theorem dX0_setDegree_65 : decode cX0_setDegree 65 = .ok (.goto (-19), 3) := by decide +kernel
theorem dX0_setDegree_68 : decode cX0_setDegree 68 = .ok (.return_, 1) := by decide +kernel
theorem dX0_isPrime_0 : decode cX0_isPrime 0 = .ok (.iconst 2, 1) := by decide +kernel
theorem dX0_isPrime_1 : decode cX0_isPrime 1 = .ok (.istore_n 1, 1) := by decide +kernel
theorem dX0_isPrime_2 : decode cX0_isPrime 2 = .ok (.iload_n 1, 1) := by decide +kernel
theorem dX0_isPrime_3 : decode cX0_isPrime 3 = .ok (.iload_n 1, 1) := by decide +kernel
theorem dX0_isPrime_4 : decode cX0_isPrime 4 = .ok (.imul, 1) := by decide +kernel
theorem dX0_isPrime_5 : decode cX0_isPrime 5 = .ok (.iload_n 0, 1) := by decide +kernel
theorem dX0_isPrime_6 : decode cX0_isPrime 6 = .ok (.if_icmp .gt 17, 3) := by decide +kernel
theorem dX0_isPrime_9 : decode cX0_isPrime 9 = .ok (.iload_n 0, 1) := by decide +kernel
theorem dX0_isPrime_10 : decode cX0_isPrime 10 = .ok (.iload_n 1, 1) := by decide +kernel
theorem dX0_isPrime_11 : decode cX0_isPrime 11 = .ok (.irem, 1) := by decide +kernel
theorem dX0_isPrime_12 : decode cX0_isPrime 12 = .ok (.ifCond .ne 5, 3) := by decide +kernel
theorem dX0_isPrime_15 : decode cX0_isPrime 15 = .ok (.iconst 0, 1) := by decide +kernel
theorem dX0_isPrime_16 : decode cX0_isPrime 16 = .ok (.ireturn, 1) := by decide +kernel
theorem dX0_isPrime_17 : decode cX0_isPrime 17 = .ok (.iinc 1 1, 3) := by decide +kernel
theorem dX0_isPrime_20 : decode cX0_isPrime 20 = .ok (.goto (-18), 3) := by decide +kernel
theorem dX0_isPrime_23 : decode cX0_isPrime 23 = .ok (.iload_n 0, 1) := by decide +kernel
theorem dX0_isPrime_24 : decode cX0_isPrime 24 = .ok (.iconst 2, 1) := by decide +kernel
theorem dX0_isPrime_25 : decode cX0_isPrime 25 = .ok (.if_icmp .le 7, 3) := by decide +kernel
theorem dX0_isPrime_28 : decode cX0_isPrime 28 = .ok (.iconst 1, 1) := by decide +kernel
theorem dX0_isPrime_29 : decode cX0_isPrime 29 = .ok (.goto 4, 3) := by decide +kernel
theorem dX0_isPrime_32 : decode cX0_isPrime 32 = .ok (.iconst 0, 1) := by decide +kernel
theorem dX0_isPrime_33 : decode cX0_isPrime 33 = .ok (.ireturn, 1) := by decide +kernel
set_option maxRecDepth 20000 in
theorem ggX0_leastRoot_X0_hasAllPowers : GoodIn wsX0_leastRoot wsX0_hasAllPowers := goodIn_r _ [6, 1, 7, 8, 9, 10, 11, 12, 13, 14, 15, 16, 17, 18] (by decide +kernel) (by decide +kernel)
set_option maxRecDepth 20000 in
theorem gX0_leastRoot_X0_hasAllPowers : GoodIn wsX0_leastRoot (wsV RX0 152 RX0 yX0_hasAllPowers wsX0_hasAllPowers) := goodIn_app (goodIn_of _ (by decide +kernel)) ggX0_leastRoot_X0_hasAllPowers
theorem dX0_leastRoot_0 : decode cX0_leastRoot 0 = .ok (.iconst 2, 1) := by decide +kernel
theorem dX0_leastRoot_1 : decode cX0_leastRoot 1 = .ok (.istore_n 1, 1) := by decide +kernel
theorem dX0_leastRoot_2 : decode cX0_leastRoot 2 = .ok (.iload_n 1, 1) := by decide +kernel
theorem dX0_leastRoot_3 : decode cX0_leastRoot 3 = .ok (.aload_n 0, 1) := by decide +kernel
theorem dX0_leastRoot_4 : decode cX0_leastRoot 4 = .ok (.getfield 49, 3) := by decide +kernel
theorem dX0_leastRoot_7 : decode cX0_leastRoot 7 = .ok (.if_icmp .ge 19, 3) := by decide +kernel
theorem dX0_leastRoot_10 : decode cX0_leastRoot 10 = .ok (.aload_n 0, 1) := by decide +kernel
theorem dX0_leastRoot_11 : decode cX0_leastRoot 11 = .ok (.iload_n 1, 1) := by decide +kernel
theorem dX0_leastRoot_12 : decode cX0_leastRoot 12 = .ok (.invokevirtual 152, 3) := by decide +kernel
theorem dX0_leastRoot_15 : decode cX0_leastRoot 15 = .ok (.ifCond .eq 5, 3) := by decide +kernel
theorem dX0_leastRoot_18 : decode cX0_leastRoot 18 = .ok (.iload_n 1, 1) := by decide +kernel
theorem dX0_leastRoot_19 : decode cX0_leastRoot 19 = .ok (.ireturn, 1) := by decide +kernel
theorem dX0_leastRoot_20 : decode cX0_leastRoot 20 = .ok (.iinc 1 1, 3) := by decide +kernel
theorem dX0_leastRoot_23 : decode cX0_leastRoot 23 = .ok (.goto (-21), 3) := by decide +kernel
theorem dX0_leastRoot_26 : decode cX0_leastRoot 26 = .ok (.iconst 1, 1) := by decide +kernel
theorem dX0_leastRoot_27 : decode cX0_leastRoot 27 = .ok (.ireturn, 1) := by decide +kernel
theorem dX0_hasAllPowers_0 : decode cX0_hasAllPowers 0 = .ok (.iload_n 1, 1) := by decide +kernel
theorem dX0_hasAllPowers_1 : decode cX0_hasAllPowers 1 = .ok (.istore_n 2, 1) := by decide +kernel
theorem dX0_hasAllPowers_2 : decode cX0_hasAllPowers 2 = .ok (.iconst 1, 1) := by decide +kernel
theorem dX0_hasAllPowers_3 : decode cX0_hasAllPowers 3 = .ok (.istore_n 3, 1) := by decide +kernel
theorem dX0_hasAllPowers_4 : decode cX0_hasAllPowers 4 = .ok (.iload_n 3, 1) := by decide +kernel
theorem dX0_hasAllPowers_5 : decode cX0_hasAllPowers 5 = .ok (.aload_n 0, 1) := by decide +kernel
theorem dX0_hasAllPowers_6 : decode cX0_hasAllPowers 6 = .ok (.getfield 49, 3) := by decide +kernel
theorem dX0_hasAllPowers_9 : decode cX0_hasAllPowers 9 = .ok (.iconst 1, 1) := by decide +kernel
theorem dX0_hasAllPowers_10 : decode cX0_hasAllPowers 10 = .ok (.isub, 1) := by decide +kernel
theorem dX0_hasAllPowers_11 : decode cX0_hasAllPowers 11 = .ok (.if_icmp .ge 25, 3) := by decide +kernel
theorem dX0_hasAllPowers_14 : decode cX0_hasAllPowers 14 = .ok (.iload_n 2, 1) := by decide +kernel
theorem dX0_hasAllPowers_15 : decode cX0_hasAllPowers 15 = .ok (.iconst 1, 1) := by decide +kernel
theorem dX0_hasAllPowers_16 : decode cX0_hasAllPowers 16 = .ok (.if_icmp .ne 5, 3) := by decide +kernel
theorem dX0_hasAllPowers_19 : decode cX0_hasAllPowers 19 = .ok (.iconst 0, 1) := by decide +kernel
theorem dX0_hasAllPowers_20 : decode cX0_hasAllPowers 20 = .ok (.ireturn, 1) := by decide +kernel
theorem dX0_hasAllPowers_21 : decode cX0_hasAllPowers 21 = .ok (.iload_n 2, 1) := by decide +kernel
theorem dX0_hasAllPowers_22 : decode cX0_hasAllPowers 22 = .ok (.iload_n 1, 1) := by decide +kernel
theorem dX0_hasAllPowers_23 : decode cX0_hasAllPowers 23 = .ok (.imul, 1) := by decide +kernel
theorem dX0_hasAllPowers_24 : decode cX0_hasAllPowers 24 = .ok (.aload_n 0, 1) := by decide +kernel
theorem dX0_hasAllPowers_25 : decode cX0_hasAllPowers 25 = .ok (.getfield 49, 3) := by decide +kernel
theorem dX0_hasAllPowers_28 : decode cX0_hasAllPowers 28 = .ok (.irem, 1) := by decide +kernel
theorem dX0_hasAllPowers_29 : decode cX0_hasAllPowers 29 = .ok (.istore_n 2, 1) := by decide +kernel
theorem dX0_hasAllPowers_30 : decode cX0_hasAllPowers 30 = .ok (.iinc 3 1, 3) := by decide +kernel
theorem dX0_hasAllPowers_33 : decode cX0_hasAllPowers 33 = .ok (.goto (-29), 3) := by decide +kernel
theorem dX0_hasAllPowers_36 : decode cX0_hasAllPowers 36 = .ok (.iconst 1, 1) := by decide +kernel
theorem dX0_hasAllPowers_37 : decode cX0_hasAllPowers 37 = .ok (.ireturn, 1) := by decide +kernel
theorem dX0_sharesDivisor_0 : decode cX0_sharesDivisor 0 = .ok (.iconst 2, 1) := by decide +kernel
theorem dX0_sharesDivisor_1 : decode cX0_sharesDivisor 1 = .ok (.istore_n 2, 1) := by decide +kernel
theorem dX0_sharesDivisor_2 : decode cX0_sharesDivisor 2 = .ok (.iload_n 2, 1) := by decide +kernel
theorem dX0_sharesDivisor_3 : decode cX0_sharesDivisor 3 = .ok (.aload_n 0, 1) := by decide +kernel
theorem dX0_sharesDivisor_4 : decode cX0_sharesDivisor 4 = .ok (.getfield 74, 3) := by decide +kernel
theorem dX0_sharesDivisor_7 : decode cX0_sharesDivisor 7 = .ok (.if_icmp .gt 26, 3) := by decide +kernel
theorem dX0_sharesDivisor_10 : decode cX0_sharesDivisor 10 = .ok (.aload_n 0, 1) := by decide +kernel
theorem dX0_sharesDivisor_11 : decode cX0_sharesDivisor 11 = .ok (.getfield 74, 3) := by decide +kernel
theorem dX0_sharesDivisor_14 : decode cX0_sharesDivisor 14 = .ok (.iload_n 2, 1) := by decide +kernel
theorem dX0_sharesDivisor_15 : decode cX0_sharesDivisor 15 = .ok (.irem, 1) := by decide +kernel
theorem dX0_sharesDivisor_16 : decode cX0_sharesDivisor 16 = .ok (.ifCond .ne 11, 3) := by decide +kernel
theorem dX0_sharesDivisor_19 : decode cX0_sharesDivisor 19 = .ok (.iload_n 1, 1) := by decide +kernel
theorem dX0_sharesDivisor_20 : decode cX0_sharesDivisor 20 = .ok (.iload_n 2, 1) := by decide +kernel
theorem dX0_sharesDivisor_21 : decode cX0_sharesDivisor 21 = .ok (.irem, 1) := by decide +kernel
theorem dX0_sharesDivisor_22 : decode cX0_sharesDivisor 22 = .ok (.ifCond .ne 5, 3) := by decide +kernel
theorem dX0_sharesDivisor_25 : decode cX0_sharesDivisor 25 = .ok (.iconst 1, 1) := by decide +kernel
theorem dX0_sharesDivisor_26 : decode cX0_sharesDivisor 26 = .ok (.ireturn, 1) := by decide +kernel
theorem dX0_sharesDivisor_27 : decode cX0_sharesDivisor 27 = .ok (.iinc 2 1, 3) := by decide +kernel
theorem dX0_sharesDivisor_30 : decode cX0_sharesDivisor 30 = .ok (.goto (-28), 3) := by decide +kernel
theorem dX0_sharesDivisor_33 : decode cX0_sharesDivisor 33 = .ok (.iconst 0, 1) := by decide +kernel
theorem dX0_sharesDivisor_34 : decode cX0_sharesDivisor 34 = .ok (.ireturn, 1) := by decide +kernel
theorem dX0_isHold_0 : decode cX0_isHold 0 = .ok (.iload_n 0, 1) := by decide +kernel
theorem dX0_isHold_1 : decode cX0_isHold 1 = .ok (.ifCond .lt 13, 3) := by decide +kernel
theorem dX0_isHold_4 : decode cX0_isHold 4 = .ok (.iload_n 0, 1) := by decide +kernel
theorem dX0_isHold_5 : decode cX0_isHold 5 = .ok (.bipush 6, 2) := by decide +kernel
theorem dX0_isHold_7 : decode cX0_isHold 7 = .ok (.if_icmp .ge 7, 3) := by decide +kernel
theorem dX0_isHold_10 : decode cX0_isHold 10 = .ok (.iconst 1, 1) := by decide +kernel
theorem dX0_isHold_11 : decode cX0_isHold 11 = .ok (.goto 4, 3) := by decide +kernel
theorem dX0_isHold_14 : decode cX0_isHold 14 = .ok (.iconst 0, 1) := by decide +kernel
theorem dX0_isHold_15 : decode cX0_isHold 15 = .ok (.ireturn, 1) := by decide +kernel
theorem dX0_isClass_0 : decode cX0_isClass 0 = .ok (.iload_n 1, 1) := by decide +kernel
theorem dX0_isClass_1 : decode cX0_isClass 1 = .ok (.ifCond .lt 15, 3) := by decide +kernel
theorem dX0_isClass_4 : decode cX0_isClass 4 = .ok (.iload_n 1, 1) := by decide +kernel
theorem dX0_isClass_5 : decode cX0_isClass 5 = .ok (.aload_n 0, 1) := by decide +kernel
theorem dX0_isClass_6 : decode cX0_isClass 6 = .ok (.getfield 74, 3) := by decide +kernel
theorem dX0_isClass_9 : decode cX0_isClass 9 = .ok (.if_icmp .ge 7, 3) := by decide +kernel
theorem dX0_isClass_12 : decode cX0_isClass 12 = .ok (.iconst 1, 1) := by decide +kernel
theorem dX0_isClass_13 : decode cX0_isClass 13 = .ok (.goto 4, 3) := by decide +kernel
theorem dX0_isClass_16 : decode cX0_isClass 16 = .ok (.iconst 0, 1) := by decide +kernel
theorem dX0_isClass_17 : decode cX0_isClass 17 = .ok (.ireturn, 1) := by decide +kernel
theorem dX0_isSet_0 : decode cX0_isSet 0 = .ok (.iload_n 1, 1) := by decide +kernel
theorem dX0_isSet_1 : decode cX0_isSet 1 = .ok (.aload_n 0, 1) := by decide +kernel
theorem dX0_isSet_2 : decode cX0_isSet 2 = .ok (.getfield 74, 3) := by decide +kernel
theorem dX0_isSet_5 : decode cX0_isSet 5 = .ok (.iushr, 1) := by decide +kernel
theorem dX0_isSet_6 : decode cX0_isSet 6 = .ok (.ifCond .ne 7, 3) := by decide +kernel
theorem dX0_isSet_9 : decode cX0_isSet 9 = .ok (.iconst 1, 1) := by decide +kernel
theorem dX0_isSet_10 : decode cX0_isSet 10 = .ok (.goto 4, 3) := by decide +kernel
theorem dX0_isSet_13 : decode cX0_isSet 13 = .ok (.iconst 0, 1) := by decide +kernel
theorem dX0_isSet_14 : decode cX0_isSet 14 = .ok (.ireturn, 1) := by decide +kernel
theorem dX0_isSign_0 : decode cX0_isSign 0 = .ok (.iload_n 0, 1) := by decide +kernel
theorem dX0_isSign_1 : decode cX0_isSign 1 = .ok (.iconst 1, 1) := by decide +kernel
theorem dX0_isSign_2 : decode cX0_isSign 2 = .ok (.if_icmp .eq 8, 3) := by decide +kernel
theorem dX0_isSign_5 : decode cX0_isSign 5 = .ok (.iload_n 0, 1) := by decide +kernel
theorem dX0_isSign_6 : decode cX0_isSign 6 = .ok (.iconst (-1), 1) := by decide +kernel
theorem dX0_isSign_7 : decode cX0_isSign 7 = .ok (.if_icmp .ne 7, 3) := by decide +kernel
theorem dX0_isSign_10 : decode cX0_isSign 10 = .ok (.iconst 1, 1) := by decide +kernel
theorem dX0_isSign_11 : decode cX0_isSign 11 = .ok (.goto 4, 3) := by decide +kernel
theorem dX0_isSign_14 : decode cX0_isSign 14 = .ok (.iconst 0, 1) := by decide +kernel
theorem dX0_isSign_15 : decode cX0_isSign 15 = .ok (.ireturn, 1) := by decide +kernel
theorem dX0_classOf_0 : decode cX0_classOf 0 = .ok (.aload_n 0, 1) := by decide +kernel
theorem dX0_classOf_1 : decode cX0_classOf 1 = .ok (.getfield 9, 3) := by decide +kernel
theorem dX0_classOf_4 : decode cX0_classOf 4 = .ok (.iload_n 1, 1) := by decide +kernel
theorem dX0_classOf_5 : decode cX0_classOf 5 = .ok (.aload_n 0, 1) := by decide +kernel
theorem dX0_classOf_6 : decode cX0_classOf 6 = .ok (.getfield 49, 3) := by decide +kernel
theorem dX0_classOf_9 : decode cX0_classOf 9 = .ok (.irem, 1) := by decide +kernel
theorem dX0_classOf_10 : decode cX0_classOf 10 = .ok (.iaload, 1) := by decide +kernel
theorem dX0_classOf_11 : decode cX0_classOf 11 = .ok (.aload_n 0, 1) := by decide +kernel
theorem dX0_classOf_12 : decode cX0_classOf 12 = .ok (.getfield 74, 3) := by decide +kernel
theorem dX0_classOf_15 : decode cX0_classOf 15 = .ok (.irem, 1) := by decide +kernel
theorem dX0_classOf_16 : decode cX0_classOf 16 = .ok (.ireturn, 1) := by decide +kernel
set_option maxRecDepth 20000 in
theorem ggX0_add_J7_fill_d0a16 : GoodIn wsX0_add wsJ7_fill_d0a16 := goodIn_r _ [6] (by decide +kernel) (by decide +kernel)
set_option maxRecDepth 20000 in
theorem gX0_add_J7_fill_d0a16 : GoodIn wsX0_add (va_wsS RX0 77 yJ7_fill_d0a16 wsJ7_fill_d0a16) := goodIn_app (goodIn_of _ (by decide +kernel)) ggX0_add_J7_fill_d0a16
theorem dX0_add_0 : decode cX0_add 0 = .ok (.aload_n 0, 1) := by decide +kernel
theorem dX0_add_1 : decode cX0_add 1 = .ok (.getfield 27, 3) := by decide +kernel
theorem dX0_add_4 : decode cX0_add 4 = .ok (.lconst 0, 1) := by decide +kernel
theorem dX0_add_5 : decode cX0_add 5 = .ok (.invokestatic 77, 3) := by decide +kernel
theorem dX0_add_8 : decode cX0_add 8 = .ok (.iconst 0, 1) := by decide +kernel
theorem dX0_add_9 : decode cX0_add 9 = .ok (.istore 4, 2) := by decide +kernel
theorem dX0_add_11 : decode cX0_add 11 = .ok (.iload 4, 2) := by decide +kernel
theorem dX0_add_13 : decode cX0_add 13 = .ok (.aload_n 0, 1) := by decide +kernel
theorem dX0_add_14 : decode cX0_add 14 = .ok (.getfield 55, 3) := by decide +kernel
theorem dX0_add_17 : decode cX0_add 17 = .ok (.if_icmp .ge 30, 3) := by decide +kernel
theorem dX0_add_20 : decode cX0_add 20 = .ok (.aload_n 0, 1) := by decide +kernel
theorem dX0_add_21 : decode cX0_add 21 = .ok (.getfield 27, 3) := by decide +kernel
theorem dX0_add_24 : decode cX0_add 24 = .ok (.iload 4, 2) := by decide +kernel
theorem dX0_add_26 : decode cX0_add 26 = .ok (.aload_n 1, 1) := by decide +kernel
theorem dX0_add_27 : decode cX0_add 27 = .ok (.iload 4, 2) := by decide +kernel
theorem dX0_add_29 : decode cX0_add 29 = .ok (.iaload, 1) := by decide +kernel
theorem dX0_add_30 : decode cX0_add 30 = .ok (.i2l, 1) := by decide +kernel
theorem dX0_add_31 : decode cX0_add 31 = .ok (.iload_n 3, 1) := by decide +kernel
theorem dX0_add_32 : decode cX0_add 32 = .ok (.i2l, 1) := by decide +kernel
theorem dX0_add_33 : decode cX0_add 33 = .ok (.aload_n 2, 1) := by decide +kernel
theorem dX0_add_34 : decode cX0_add 34 = .ok (.iload 4, 2) := by decide +kernel
theorem dX0_add_36 : decode cX0_add 36 = .ok (.iaload, 1) := by decide +kernel
theorem dX0_add_37 : decode cX0_add 37 = .ok (.i2l, 1) := by decide +kernel
theorem dX0_add_38 : decode cX0_add 38 = .ok (.lmul, 1) := by decide +kernel
theorem dX0_add_39 : decode cX0_add 39 = .ok (.ladd, 1) := by decide +kernel
theorem dX0_add_40 : decode cX0_add 40 = .ok (.lastore, 1) := by decide +kernel
theorem dX0_add_41 : decode cX0_add 41 = .ok (.iinc 4 1, 3) := by decide +kernel
theorem dX0_add_44 : decode cX0_add 44 = .ok (.goto (-33), 3) := by decide +kernel
theorem dX0_add_47 : decode cX0_add 47 = .ok (.return_, 1) := by decide +kernel
set_option maxRecDepth 20000 in
theorem ggX0_multiply_J7_fill_d0a16 : GoodIn wsX0_multiply wsJ7_fill_d0a16 := goodIn_r _ [7] (by decide +kernel) (by decide +kernel)
set_option maxRecDepth 20000 in
theorem gX0_multiply_J7_fill_d0a16 : GoodIn wsX0_multiply (va_wsS RX0 77 yJ7_fill_d0a16 wsJ7_fill_d0a16) := goodIn_app (goodIn_of _ (by decide +kernel)) ggX0_multiply_J7_fill_d0a16
theorem dX0_multiply_0 : decode cX0_multiply 0 = .ok (.aload_n 0, 1) := by decide +kernel
theorem dX0_multiply_1 : decode cX0_multiply 1 = .ok (.getfield 27, 3) := by decide +kernel
theorem dX0_multiply_4 : decode cX0_multiply 4 = .ok (.lconst 0, 1) := by decide +kernel
theorem dX0_multiply_5 : decode cX0_multiply 5 = .ok (.invokestatic 77, 3) := by decide +kernel
theorem dX0_multiply_8 : decode cX0_multiply 8 = .ok (.iconst 0, 1) := by decide +kernel
theorem dX0_multiply_9 : decode cX0_multiply 9 = .ok (.istore 4, 2) := by decide +kernel
theorem dX0_multiply_11 : decode cX0_multiply 11 = .ok (.iload 4, 2) := by decide +kernel
theorem dX0_multiply_13 : decode cX0_multiply 13 = .ok (.aload_n 0, 1) := by decide +kernel
theorem dX0_multiply_14 : decode cX0_multiply 14 = .ok (.getfield 55, 3) := by decide +kernel
theorem dX0_multiply_17 : decode cX0_multiply 17 = .ok (.if_icmp .ge 58, 3) := by decide +kernel
theorem dX0_multiply_20 : decode cX0_multiply 20 = .ok (.iconst 0, 1) := by decide +kernel
theorem dX0_multiply_21 : decode cX0_multiply 21 = .ok (.istore 5, 2) := by decide +kernel
theorem dX0_multiply_23 : decode cX0_multiply 23 = .ok (.iload 5, 2) := by decide +kernel
theorem dX0_multiply_25 : decode cX0_multiply 25 = .ok (.aload_n 0, 1) := by decide +kernel
theorem dX0_multiply_26 : decode cX0_multiply 26 = .ok (.getfield 55, 3) := by decide +kernel
theorem dX0_multiply_29 : decode cX0_multiply 29 = .ok (.if_icmp .ge 40, 3) := by decide +kernel
theorem dX0_multiply_32 : decode cX0_multiply 32 = .ok (.aload_n 0, 1) := by decide +kernel
theorem dX0_multiply_33 : decode cX0_multiply 33 = .ok (.getfield 27, 3) := by decide +kernel
theorem dX0_multiply_36 : decode cX0_multiply 36 = .ok (.iload 4, 2) := by decide +kernel
theorem dX0_multiply_38 : decode cX0_multiply 38 = .ok (.iload 5, 2) := by decide +kernel
theorem dX0_multiply_40 : decode cX0_multiply 40 = .ok (.iload_n 3, 1) := by decide +kernel
theorem dX0_multiply_41 : decode cX0_multiply 41 = .ok (.imul, 1) := by decide +kernel
theorem dX0_multiply_42 : decode cX0_multiply 42 = .ok (.iadd, 1) := by decide +kernel
theorem dX0_multiply_43 : decode cX0_multiply 43 = .ok (.aload_n 0, 1) := by decide +kernel
theorem dX0_multiply_44 : decode cX0_multiply 44 = .ok (.getfield 74, 3) := by decide +kernel
theorem dX0_multiply_47 : decode cX0_multiply 47 = .ok (.irem, 1) := by decide +kernel
theorem dX0_multiply_48 : decode cX0_multiply 48 = .ok (.dup2, 1) := by decide +kernel
theorem dX0_multiply_49 : decode cX0_multiply 49 = .ok (.laload, 1) := by decide +kernel
theorem dX0_multiply_50 : decode cX0_multiply 50 = .ok (.aload_n 1, 1) := by decide +kernel
theorem dX0_multiply_51 : decode cX0_multiply 51 = .ok (.iload 4, 2) := by decide +kernel
theorem dX0_multiply_53 : decode cX0_multiply 53 = .ok (.iaload, 1) := by decide +kernel
theorem dX0_multiply_54 : decode cX0_multiply 54 = .ok (.i2l, 1) := by decide +kernel
theorem dX0_multiply_55 : decode cX0_multiply 55 = .ok (.aload_n 2, 1) := by decide +kernel
theorem dX0_multiply_56 : decode cX0_multiply 56 = .ok (.iload 5, 2) := by decide +kernel
theorem dX0_multiply_58 : decode cX0_multiply 58 = .ok (.iaload, 1) := by decide +kernel
theorem dX0_multiply_59 : decode cX0_multiply 59 = .ok (.i2l, 1) := by decide +kernel
theorem dX0_multiply_60 : decode cX0_multiply 60 = .ok (.lmul, 1) := by decide +kernel
theorem dX0_multiply_61 : decode cX0_multiply 61 = .ok (.ladd, 1) := by decide +kernel
theorem dX0_multiply_62 : decode cX0_multiply 62 = .ok (.lastore, 1) := by decide +kernel
theorem dX0_multiply_63 : decode cX0_multiply 63 = .ok (.iinc 5 1, 3) := by decide +kernel
theorem dX0_multiply_66 : decode cX0_multiply 66 = .ok (.goto (-43), 3) := by decide +kernel
theorem dX0_multiply_69 : decode cX0_multiply 69 = .ok (.iinc 4 1, 3) := by decide +kernel
theorem dX0_multiply_72 : decode cX0_multiply 72 = .ok (.goto (-61), 3) := by decide +kernel
theorem dX0_multiply_75 : decode cX0_multiply 75 = .ok (.return_, 1) := by decide +kernel
theorem dX0_reduce_0 : decode cX0_reduce 0 = .ok (.aload_n 0, 1) := by decide +kernel
theorem dX0_reduce_1 : decode cX0_reduce 1 = .ok (.getfield 74, 3) := by decide +kernel
theorem dX0_reduce_4 : decode cX0_reduce 4 = .ok (.iconst 1, 1) := by decide +kernel
theorem dX0_reduce_5 : decode cX0_reduce 5 = .ok (.isub, 1) := by decide +kernel
theorem dX0_reduce_6 : decode cX0_reduce 6 = .ok (.istore_n 1, 1) := by decide +kernel
theorem dX0_reduce_7 : decode cX0_reduce 7 = .ok (.iload_n 1, 1) := by decide +kernel
theorem dX0_reduce_8 : decode cX0_reduce 8 = .ok (.aload_n 0, 1) := by decide +kernel
theorem dX0_reduce_9 : decode cX0_reduce 9 = .ok (.getfield 55, 3) := by decide +kernel
theorem dX0_reduce_12 : decode cX0_reduce 12 = .ok (.if_icmp .lt 71, 3) := by decide +kernel
theorem dX0_reduce_15 : decode cX0_reduce 15 = .ok (.iconst 0, 1) := by decide +kernel
theorem dX0_reduce_16 : decode cX0_reduce 16 = .ok (.istore_n 2, 1) := by decide +kernel
theorem dX0_reduce_17 : decode cX0_reduce 17 = .ok (.iload_n 2, 1) := by decide +kernel
theorem dX0_reduce_18 : decode cX0_reduce 18 = .ok (.aload_n 0, 1) := by decide +kernel
theorem dX0_reduce_19 : decode cX0_reduce 19 = .ok (.getfield 55, 3) := by decide +kernel
theorem dX0_reduce_22 : decode cX0_reduce 22 = .ok (.if_icmp .ge 48, 3) := by decide +kernel
theorem dX0_reduce_25 : decode cX0_reduce 25 = .ok (.aload_n 0, 1) := by decide +kernel
theorem dX0_reduce_26 : decode cX0_reduce 26 = .ok (.getfield 27, 3) := by decide +kernel
theorem dX0_reduce_29 : decode cX0_reduce 29 = .ok (.iload_n 1, 1) := by decide +kernel
theorem dX0_reduce_30 : decode cX0_reduce 30 = .ok (.aload_n 0, 1) := by decide +kernel
theorem dX0_reduce_31 : decode cX0_reduce 31 = .ok (.getfield 55, 3) := by decide +kernel
theorem dX0_reduce_34 : decode cX0_reduce 34 = .ok (.isub, 1) := by decide +kernel
theorem dX0_reduce_35 : decode cX0_reduce 35 = .ok (.iload_n 2, 1) := by decide +kernel
theorem dX0_reduce_36 : decode cX0_reduce 36 = .ok (.iadd, 1) := by decide +kernel
theorem dX0_reduce_37 : decode cX0_reduce 37 = .ok (.dup2, 1) := by decide +kernel
theorem dX0_reduce_38 : decode cX0_reduce 38 = .ok (.laload, 1) := by decide +kernel
theorem dX0_reduce_39 : decode cX0_reduce 39 = .ok (.aload_n 0, 1) := by decide +kernel
theorem dX0_reduce_40 : decode cX0_reduce 40 = .ok (.getfield 27, 3) := by decide +kernel
theorem dX0_reduce_43 : decode cX0_reduce 43 = .ok (.iload_n 1, 1) := by decide +kernel
theorem dX0_reduce_44 : decode cX0_reduce 44 = .ok (.laload, 1) := by decide +kernel
theorem dX0_reduce_45 : decode cX0_reduce 45 = .ok (.getstatic 155, 3) := by decide +kernel
theorem dX0_reduce_48 : decode cX0_reduce 48 = .ok (.aload_n 0, 1) := by decide +kernel
theorem dX0_reduce_49 : decode cX0_reduce 49 = .ok (.getfield 74, 3) := by decide +kernel
theorem dX0_reduce_52 : decode cX0_reduce 52 = .ok (.iconst 1, 1) := by decide +kernel
theorem dX0_reduce_53 : decode cX0_reduce 53 = .ok (.isub, 1) := by decide +kernel
theorem dX0_reduce_54 : decode cX0_reduce 54 = .ok (.bipush 10, 2) := by decide +kernel
theorem dX0_reduce_56 : decode cX0_reduce 56 = .ok (.imul, 1) := by decide +kernel
theorem dX0_reduce_57 : decode cX0_reduce 57 = .ok (.iload_n 2, 1) := by decide +kernel
theorem dX0_reduce_58 : decode cX0_reduce 58 = .ok (.iadd, 1) := by decide +kernel
theorem dX0_reduce_59 : decode cX0_reduce 59 = .ok (.iaload, 1) := by decide +kernel
theorem dX0_reduce_60 : decode cX0_reduce 60 = .ok (.i2l, 1) := by decide +kernel
theorem dX0_reduce_61 : decode cX0_reduce 61 = .ok (.lmul, 1) := by decide +kernel
theorem dX0_reduce_62 : decode cX0_reduce 62 = .ok (.lsub, 1) := by decide +kernel
theorem dX0_reduce_63 : decode cX0_reduce 63 = .ok (.lastore, 1) := by decide +kernel
theorem dX0_reduce_64 : decode cX0_reduce 64 = .ok (.iinc 2 1, 3) := by decide +kernel
theorem dX0_reduce_67 : decode cX0_reduce 67 = .ok (.goto (-50), 3) := by decide +kernel
theorem dX0_reduce_70 : decode cX0_reduce 70 = .ok (.aload_n 0, 1) := by decide +kernel
theorem dX0_reduce_71 : decode cX0_reduce 71 = .ok (.getfield 27, 3) := by decide +kernel
theorem dX0_reduce_74 : decode cX0_reduce 74 = .ok (.iload_n 1, 1) := by decide +kernel
theorem dX0_reduce_75 : decode cX0_reduce 75 = .ok (.lconst 0, 1) := by decide +kernel
theorem dX0_reduce_76 : decode cX0_reduce 76 = .ok (.lastore, 1) := by decide +kernel
theorem dX0_reduce_77 : decode cX0_reduce 77 = .ok (.iinc 1 (-1), 3) := by decide +kernel
theorem dX0_reduce_80 : decode cX0_reduce 80 = .ok (.goto (-73), 3) := by decide +kernel
theorem dX0_reduce_83 : decode cX0_reduce 83 = .ok (.return_, 1) := by decide +kernel
set_option maxRecDepth 20000 in
theorem ggX0_store_X0_reduce : GoodIn wsX0_store wsX0_reduce := goodIn_r _ [10, 11, 1, 2, 12, 13, 14, 15, 16, 17, 18, 19, 20, 21, 22, 23, 24] (by decide +kernel) (by decide +kernel)
set_option maxRecDepth 20000 in
theorem gX0_store_X0_reduce : GoodIn wsX0_store (wsV RX0 99 RX0 yX0_reduce wsX0_reduce) := goodIn_app (goodIn_of _ (by decide +kernel)) ggX0_store_X0_reduce
theorem dX0_store_0 : decode cX0_store 0 = .ok (.aload_n 0, 1) := by decide +kernel
theorem dX0_store_1 : decode cX0_store 1 = .ok (.invokevirtual 99, 3) := by decide +kernel
theorem dX0_store_4 : decode cX0_store 4 = .ok (.iconst 0, 1) := by decide +kernel
theorem dX0_store_5 : decode cX0_store 5 = .ok (.istore_n 2, 1) := by decide +kernel
theorem dX0_store_6 : decode cX0_store 6 = .ok (.iload_n 2, 1) := by decide +kernel
theorem dX0_store_7 : decode cX0_store 7 = .ok (.aload_n 0, 1) := by decide +kernel
theorem dX0_store_8 : decode cX0_store 8 = .ok (.getfield 55, 3) := by decide +kernel
theorem dX0_store_11 : decode cX0_store 11 = .ok (.if_icmp .ge 38, 3) := by decide +kernel
theorem dX0_store_14 : decode cX0_store 14 = .ok (.aload_n 0, 1) := by decide +kernel
theorem dX0_store_15 : decode cX0_store 15 = .ok (.getfield 27, 3) := by decide +kernel
theorem dX0_store_18 : decode cX0_store 18 = .ok (.iload_n 2, 1) := by decide +kernel
theorem dX0_store_19 : decode cX0_store 19 = .ok (.laload, 1) := by decide +kernel
theorem dX0_store_20 : decode cX0_store 20 = .ok (.ldc2_w 158, 3) := by decide +kernel
theorem dX0_store_23 : decode cX0_store 23 = .ok (.lcmp, 1) := by decide +kernel
theorem dX0_store_24 : decode cX0_store 24 = .ok (.ifCond .lt 16, 3) := by decide +kernel
theorem dX0_store_27 : decode cX0_store 27 = .ok (.aload_n 0, 1) := by decide +kernel
theorem dX0_store_28 : decode cX0_store 28 = .ok (.getfield 27, 3) := by decide +kernel
theorem dX0_store_31 : decode cX0_store 31 = .ok (.iload_n 2, 1) := by decide +kernel
theorem dX0_store_32 : decode cX0_store 32 = .ok (.laload, 1) := by decide +kernel
theorem dX0_store_33 : decode cX0_store 33 = .ok (.ldc2_w 160, 3) := by decide +kernel
theorem dX0_store_36 : decode cX0_store 36 = .ok (.lcmp, 1) := by decide +kernel
theorem dX0_store_37 : decode cX0_store 37 = .ok (.ifCond .le 6, 3) := by decide +kernel
theorem dX0_store_40 : decode cX0_store 40 = .ok (.bipush (-5), 2) := by decide +kernel
theorem dX0_store_42 : decode cX0_store 42 = .ok (.ireturn, 1) := by decide +kernel
theorem dX0_store_43 : decode cX0_store 43 = .ok (.iinc 2 1, 3) := by decide +kernel
theorem dX0_store_46 : decode cX0_store 46 = .ok (.goto (-40), 3) := by decide +kernel
theorem dX0_store_49 : decode cX0_store 49 = .ok (.iconst 0, 1) := by decide +kernel
theorem dX0_store_50 : decode cX0_store 50 = .ok (.istore_n 2, 1) := by decide +kernel
theorem dX0_store_51 : decode cX0_store 51 = .ok (.iload_n 2, 1) := by decide +kernel
theorem dX0_store_52 : decode cX0_store 52 = .ok (.aload_n 0, 1) := by decide +kernel
theorem dX0_store_53 : decode cX0_store 53 = .ok (.getfield 55, 3) := by decide +kernel
theorem dX0_store_56 : decode cX0_store 56 = .ok (.if_icmp .ge 24, 3) := by decide +kernel
theorem dX0_store_59 : decode cX0_store 59 = .ok (.aload_n 0, 1) := by decide +kernel
theorem dX0_store_60 : decode cX0_store 60 = .ok (.getfield 24, 3) := by decide +kernel
theorem dX0_store_63 : decode cX0_store 63 = .ok (.iload_n 1, 1) := by decide +kernel
theorem dX0_store_64 : decode cX0_store 64 = .ok (.aaload, 1) := by decide +kernel
theorem dX0_store_65 : decode cX0_store 65 = .ok (.iload_n 2, 1) := by decide +kernel
theorem dX0_store_66 : decode cX0_store 66 = .ok (.aload_n 0, 1) := by decide +kernel
theorem dX0_store_67 : decode cX0_store 67 = .ok (.getfield 27, 3) := by decide +kernel
theorem dX0_store_70 : decode cX0_store 70 = .ok (.iload_n 2, 1) := by decide +kernel
theorem dX0_store_71 : decode cX0_store 71 = .ok (.laload, 1) := by decide +kernel
theorem dX0_store_72 : decode cX0_store 72 = .ok (.l2i, 1) := by decide +kernel
theorem dX0_store_73 : decode cX0_store 73 = .ok (.iastore, 1) := by decide +kernel
theorem dX0_store_74 : decode cX0_store 74 = .ok (.iinc 2 1, 3) := by decide +kernel
theorem dX0_store_77 : decode cX0_store 77 = .ok (.goto (-26), 3) := by decide +kernel
theorem dX0_store_80 : decode cX0_store 80 = .ok (.iconst 1, 1) := by decide +kernel
theorem dX0_store_81 : decode cX0_store 81 = .ok (.ireturn, 1) := by decide +kernel
theorem dX0_likePower_0 : decode cX0_likePower 0 = .ok (.iload_n 1, 1) := by decide +kernel
theorem dX0_likePower_1 : decode cX0_likePower 1 = .ok (.ifCond .ne 7, 3) := by decide +kernel
theorem dX0_likePower_4 : decode cX0_likePower 4 = .ok (.iconst 0, 1) := by decide +kernel
theorem dX0_likePower_5 : decode cX0_likePower 5 = .ok (.goto 26, 3) := by decide +kernel
theorem dX0_likePower_8 : decode cX0_likePower 8 = .ok (.aload_n 0, 1) := by decide +kernel
theorem dX0_likePower_9 : decode cX0_likePower 9 = .ok (.getfield 13, 3) := by decide +kernel
theorem dX0_likePower_12 : decode cX0_likePower 12 = .ok (.aload_n 0, 1) := by decide +kernel
theorem dX0_likePower_13 : decode cX0_likePower 13 = .ok (.getfield 9, 3) := by decide +kernel
theorem dX0_likePower_16 : decode cX0_likePower 16 = .ok (.iload_n 1, 1) := by decide +kernel
theorem dX0_likePower_17 : decode cX0_likePower 17 = .ok (.iaload, 1) := by decide +kernel
theorem dX0_likePower_18 : decode cX0_likePower 18 = .ok (.aload_n 0, 1) := by decide +kernel
theorem dX0_likePower_19 : decode cX0_likePower 19 = .ok (.getfield 74, 3) := by decide +kernel
theorem dX0_likePower_22 : decode cX0_likePower 22 = .ok (.imul, 1) := by decide +kernel
theorem dX0_likePower_23 : decode cX0_likePower 23 = .ok (.aload_n 0, 1) := by decide +kernel
theorem dX0_likePower_24 : decode cX0_likePower 24 = .ok (.getfield 49, 3) := by decide +kernel
theorem dX0_likePower_27 : decode cX0_likePower 27 = .ok (.iconst 1, 1) := by decide +kernel
theorem dX0_likePower_28 : decode cX0_likePower 28 = .ok (.isub, 1) := by decide +kernel
theorem dX0_likePower_29 : decode cX0_likePower 29 = .ok (.irem, 1) := by decide +kernel
theorem dX0_likePower_30 : decode cX0_likePower 30 = .ok (.iaload, 1) := by decide +kernel
theorem dX0_likePower_31 : decode cX0_likePower 31 = .ok (.ireturn, 1) := by decide +kernel
set_option maxRecDepth 20000 in
theorem ggX0_lengthened_X0_classOf : GoodIn wsX0_lengthened wsX0_classOf := goodIn_r _ [9, 10, 1, 4, 11, 12, 13, 14, 15, 16, 17, 18, 19, 20, 21, 22] (by decide +kernel) (by decide +kernel)
set_option maxRecDepth 20000 in
theorem gX0_lengthened_X0_classOf : GoodIn wsX0_lengthened (wsV RX0 64 RX0 yX0_classOf wsX0_classOf) := goodIn_app (goodIn_of _ (by decide +kernel)) ggX0_lengthened_X0_classOf
theorem dX0_lengthened_0 : decode cX0_lengthened 0 = .ok (.lconst 0, 1) := by decide +kernel
theorem dX0_lengthened_1 : decode cX0_lengthened 1 = .ok (.lstore 4, 2) := by decide +kernel
theorem dX0_lengthened_3 : decode cX0_lengthened 3 = .ok (.iconst 0, 1) := by decide +kernel
theorem dX0_lengthened_4 : decode cX0_lengthened 4 = .ok (.istore 6, 2) := by decide +kernel
theorem dX0_lengthened_6 : decode cX0_lengthened 6 = .ok (.iload 6, 2) := by decide +kernel
theorem dX0_lengthened_8 : decode cX0_lengthened 8 = .ok (.aload_n 0, 1) := by decide +kernel
theorem dX0_lengthened_9 : decode cX0_lengthened 9 = .ok (.getfield 49, 3) := by decide +kernel
theorem dX0_lengthened_12 : decode cX0_lengthened 12 = .ok (.iconst 1, 1) := by decide +kernel
theorem dX0_lengthened_13 : decode cX0_lengthened 13 = .ok (.isub, 1) := by decide +kernel
theorem dX0_lengthened_14 : decode cX0_lengthened 14 = .ok (.if_icmp .ge 56, 3) := by decide +kernel
theorem dX0_lengthened_17 : decode cX0_lengthened 17 = .ok (.iload_n 3, 1) := by decide +kernel
theorem dX0_lengthened_18 : decode cX0_lengthened 18 = .ok (.aload_n 0, 1) := by decide +kernel
theorem dX0_lengthened_19 : decode cX0_lengthened 19 = .ok (.getfield 13, 3) := by decide +kernel
theorem dX0_lengthened_22 : decode cX0_lengthened 22 = .ok (.iload 6, 2) := by decide +kernel
theorem dX0_lengthened_24 : decode cX0_lengthened 24 = .ok (.iaload, 1) := by decide +kernel
theorem dX0_lengthened_25 : decode cX0_lengthened 25 = .ok (.isub, 1) := by decide +kernel
theorem dX0_lengthened_26 : decode cX0_lengthened 26 = .ok (.istore 7, 2) := by decide +kernel
theorem dX0_lengthened_28 : decode cX0_lengthened 28 = .ok (.lload 4, 2) := by decide +kernel
theorem dX0_lengthened_30 : decode cX0_lengthened 30 = .ok (.iload 7, 2) := by decide +kernel
theorem dX0_lengthened_32 : decode cX0_lengthened 32 = .ok (.ifCond .ne 7, 3) := by decide +kernel
theorem dX0_lengthened_35 : decode cX0_lengthened 35 = .ok (.lload_n 1, 1) := by decide +kernel
theorem dX0_lengthened_36 : decode cX0_lengthened 36 = .ok (.goto 19, 3) := by decide +kernel
theorem dX0_lengthened_39 : decode cX0_lengthened 39 = .ok (.aload_n 0, 1) := by decide +kernel
theorem dX0_lengthened_40 : decode cX0_lengthened 40 = .ok (.getfield 31, 3) := by decide +kernel
theorem dX0_lengthened_43 : decode cX0_lengthened 43 = .ok (.aload_n 0, 1) := by decide +kernel
theorem dX0_lengthened_44 : decode cX0_lengthened 44 = .ok (.iload 7, 2) := by decide +kernel
theorem dX0_lengthened_46 : decode cX0_lengthened 46 = .ok (.aload_n 0, 1) := by decide +kernel
theorem dX0_lengthened_47 : decode cX0_lengthened 47 = .ok (.getfield 49, 3) := by decide +kernel
theorem dX0_lengthened_50 : decode cX0_lengthened 50 = .ok (.iadd, 1) := by decide +kernel
theorem dX0_lengthened_51 : decode cX0_lengthened 51 = .ok (.invokevirtual 64, 3) := by decide +kernel
theorem dX0_lengthened_54 : decode cX0_lengthened 54 = .ok (.laload, 1) := by decide +kernel
theorem dX0_lengthened_55 : decode cX0_lengthened 55 = .ok (.ladd, 1) := by decide +kernel
theorem dX0_lengthened_56 : decode cX0_lengthened 56 = .ok (.lstore 4, 2) := by decide +kernel
theorem dX0_lengthened_58 : decode cX0_lengthened 58 = .ok (.iload 6, 2) := by decide +kernel
theorem dX0_lengthened_60 : decode cX0_lengthened 60 = .ok (.aload_n 0, 1) := by decide +kernel
theorem dX0_lengthened_61 : decode cX0_lengthened 61 = .ok (.getfield 74, 3) := by decide +kernel
theorem dX0_lengthened_64 : decode cX0_lengthened 64 = .ok (.iadd, 1) := by decide +kernel
theorem dX0_lengthened_65 : decode cX0_lengthened 65 = .ok (.istore 6, 2) := by decide +kernel
theorem dX0_lengthened_67 : decode cX0_lengthened 67 = .ok (.goto (-61), 3) := by decide +kernel
theorem dX0_lengthened_70 : decode cX0_lengthened 70 = .ok (.lload 4, 2) := by decide +kernel
theorem dX0_lengthened_72 : decode cX0_lengthened 72 = .ok (.lreturn, 1) := by decide +kernel
set_option maxRecDepth 20000 in
theorem ggX0_fillSigns_X0_classOf : GoodIn wsX0_fillSigns wsX0_classOf := goodIn_r _ [7, 8, 2, 9, 10, 11, 12, 13, 14, 15, 16, 17, 18, 19, 20, 21] (by decide +kernel) (by decide +kernel)
set_option maxRecDepth 20000 in
theorem gX0_fillSigns_X0_classOf : GoodIn wsX0_fillSigns (wsV RX0 64 RX0 yX0_classOf wsX0_classOf) := goodIn_app (goodIn_of _ (by decide +kernel)) ggX0_fillSigns_X0_classOf
theorem dX0_fillSigns_0 : decode cX0_fillSigns 0 = .ok (.aload_n 0, 1) := by decide +kernel
theorem dX0_fillSigns_1 : decode cX0_fillSigns 1 = .ok (.getfield 16, 3) := by decide +kernel
theorem dX0_fillSigns_4 : decode cX0_fillSigns 4 = .ok (.iconst 0, 1) := by decide +kernel
theorem dX0_fillSigns_5 : decode cX0_fillSigns 5 = .ok (.iload_n 2, 1) := by decide +kernel
theorem dX0_fillSigns_6 : decode cX0_fillSigns 6 = .ok (.iastore, 1) := by decide +kernel
theorem dX0_fillSigns_7 : decode cX0_fillSigns 7 = .ok (.iconst 1, 1) := by decide +kernel
theorem dX0_fillSigns_8 : decode cX0_fillSigns 8 = .ok (.istore_n 3, 1) := by decide +kernel
theorem dX0_fillSigns_9 : decode cX0_fillSigns 9 = .ok (.iload_n 3, 1) := by decide +kernel
theorem dX0_fillSigns_10 : decode cX0_fillSigns 10 = .ok (.aload_n 0, 1) := by decide +kernel
theorem dX0_fillSigns_11 : decode cX0_fillSigns 11 = .ok (.getfield 49, 3) := by decide +kernel
theorem dX0_fillSigns_14 : decode cX0_fillSigns 14 = .ok (.if_icmp .ge 33, 3) := by decide +kernel
theorem dX0_fillSigns_17 : decode cX0_fillSigns 17 = .ok (.aload_n 0, 1) := by decide +kernel
theorem dX0_fillSigns_18 : decode cX0_fillSigns 18 = .ok (.getfield 16, 3) := by decide +kernel
theorem dX0_fillSigns_21 : decode cX0_fillSigns 21 = .ok (.iload_n 3, 1) := by decide +kernel
theorem dX0_fillSigns_22 : decode cX0_fillSigns 22 = .ok (.iload_n 1, 1) := by decide +kernel
theorem dX0_fillSigns_23 : decode cX0_fillSigns 23 = .ok (.aload_n 0, 1) := by decide +kernel
theorem dX0_fillSigns_24 : decode cX0_fillSigns 24 = .ok (.iload_n 3, 1) := by decide +kernel
theorem dX0_fillSigns_25 : decode cX0_fillSigns 25 = .ok (.invokevirtual 64, 3) := by decide +kernel
theorem dX0_fillSigns_28 : decode cX0_fillSigns 28 = .ok (.ishr, 1) := by decide +kernel
theorem dX0_fillSigns_29 : decode cX0_fillSigns 29 = .ok (.iconst 1, 1) := by decide +kernel
theorem dX0_fillSigns_30 : decode cX0_fillSigns 30 = .ok (.iand, 1) := by decide +kernel
theorem dX0_fillSigns_31 : decode cX0_fillSigns 31 = .ok (.iconst 1, 1) := by decide +kernel
theorem dX0_fillSigns_32 : decode cX0_fillSigns 32 = .ok (.if_icmp .ne 7, 3) := by decide +kernel
theorem dX0_fillSigns_35 : decode cX0_fillSigns 35 = .ok (.iconst 1, 1) := by decide +kernel
theorem dX0_fillSigns_36 : decode cX0_fillSigns 36 = .ok (.goto 4, 3) := by decide +kernel
theorem dX0_fillSigns_39 : decode cX0_fillSigns 39 = .ok (.iconst (-1), 1) := by decide +kernel
theorem dX0_fillSigns_40 : decode cX0_fillSigns 40 = .ok (.iastore, 1) := by decide +kernel
theorem dX0_fillSigns_41 : decode cX0_fillSigns 41 = .ok (.iinc 3 1, 3) := by decide +kernel
theorem dX0_fillSigns_44 : decode cX0_fillSigns 44 = .ok (.goto (-35), 3) := by decide +kernel
theorem dX0_fillSigns_47 : decode cX0_fillSigns 47 = .ok (.return_, 1) := by decide +kernel
theorem dX0_agreement_0 : decode cX0_agreement 0 = .ok (.iconst 0, 1) := by decide +kernel
theorem dX0_agreement_1 : decode cX0_agreement 1 = .ok (.istore_n 2, 1) := by decide +kernel
theorem dX0_agreement_2 : decode cX0_agreement 2 = .ok (.iconst 0, 1) := by decide +kernel
theorem dX0_agreement_3 : decode cX0_agreement 3 = .ok (.istore_n 3, 1) := by decide +kernel
theorem dX0_agreement_4 : decode cX0_agreement 4 = .ok (.iload_n 3, 1) := by decide +kernel
theorem dX0_agreement_5 : decode cX0_agreement 5 = .ok (.aload_n 0, 1) := by decide +kernel
theorem dX0_agreement_6 : decode cX0_agreement 6 = .ok (.getfield 49, 3) := by decide +kernel
theorem dX0_agreement_9 : decode cX0_agreement 9 = .ok (.if_icmp .ge 32, 3) := by decide +kernel
theorem dX0_agreement_12 : decode cX0_agreement 12 = .ok (.iload_n 2, 1) := by decide +kernel
theorem dX0_agreement_13 : decode cX0_agreement 13 = .ok (.aload_n 0, 1) := by decide +kernel
theorem dX0_agreement_14 : decode cX0_agreement 14 = .ok (.getfield 16, 3) := by decide +kernel
theorem dX0_agreement_17 : decode cX0_agreement 17 = .ok (.iload_n 3, 1) := by decide +kernel
theorem dX0_agreement_18 : decode cX0_agreement 18 = .ok (.iaload, 1) := by decide +kernel
theorem dX0_agreement_19 : decode cX0_agreement 19 = .ok (.aload_n 0, 1) := by decide +kernel
theorem dX0_agreement_20 : decode cX0_agreement 20 = .ok (.getfield 16, 3) := by decide +kernel
theorem dX0_agreement_23 : decode cX0_agreement 23 = .ok (.iload_n 3, 1) := by decide +kernel
theorem dX0_agreement_24 : decode cX0_agreement 24 = .ok (.iload_n 1, 1) := by decide +kernel
theorem dX0_agreement_25 : decode cX0_agreement 25 = .ok (.iadd, 1) := by decide +kernel
theorem dX0_agreement_26 : decode cX0_agreement 26 = .ok (.aload_n 0, 1) := by decide +kernel
theorem dX0_agreement_27 : decode cX0_agreement 27 = .ok (.getfield 49, 3) := by decide +kernel
theorem dX0_agreement_30 : decode cX0_agreement 30 = .ok (.irem, 1) := by decide +kernel
theorem dX0_agreement_31 : decode cX0_agreement 31 = .ok (.iaload, 1) := by decide +kernel
theorem dX0_agreement_32 : decode cX0_agreement 32 = .ok (.imul, 1) := by decide +kernel
theorem dX0_agreement_33 : decode cX0_agreement 33 = .ok (.iadd, 1) := by decide +kernel
theorem dX0_agreement_34 : decode cX0_agreement 34 = .ok (.istore_n 2, 1) := by decide +kernel
theorem dX0_agreement_35 : decode cX0_agreement 35 = .ok (.iinc 3 1, 3) := by decide +kernel
theorem dX0_agreement_38 : decode cX0_agreement 38 = .ok (.goto (-34), 3) := by decide +kernel
theorem dX0_agreement_41 : decode cX0_agreement 41 = .ok (.iload_n 2, 1) := by decide +kernel
theorem dX0_agreement_42 : decode cX0_agreement 42 = .ok (.ireturn, 1) := by decide +kernel
theorem dX0_differences_0 : decode cX0_differences 0 = .ok (.iconst 0, 1) := by decide +kernel
theorem dX0_differences_1 : decode cX0_differences 1 = .ok (.istore_n 2, 1) := by decide +kernel
theorem dX0_differences_2 : decode cX0_differences 2 = .ok (.iconst 0, 1) := by decide +kernel
theorem dX0_differences_3 : decode cX0_differences 3 = .ok (.istore_n 3, 1) := by decide +kernel
theorem dX0_differences_4 : decode cX0_differences 4 = .ok (.iload_n 3, 1) := by decide +kernel
theorem dX0_differences_5 : decode cX0_differences 5 = .ok (.aload_n 0, 1) := by decide +kernel
theorem dX0_differences_6 : decode cX0_differences 6 = .ok (.getfield 49, 3) := by decide +kernel
theorem dX0_differences_9 : decode cX0_differences 9 = .ok (.if_icmp .ge 39, 3) := by decide +kernel
theorem dX0_differences_12 : decode cX0_differences 12 = .ok (.aload_n 0, 1) := by decide +kernel
theorem dX0_differences_13 : decode cX0_differences 13 = .ok (.getfield 16, 3) := by decide +kernel
theorem dX0_differences_16 : decode cX0_differences 16 = .ok (.iload_n 3, 1) := by decide +kernel
theorem dX0_differences_17 : decode cX0_differences 17 = .ok (.iaload, 1) := by decide +kernel
theorem dX0_differences_18 : decode cX0_differences 18 = .ok (.iconst 1, 1) := by decide +kernel
theorem dX0_differences_19 : decode cX0_differences 19 = .ok (.if_icmp .ne 23, 3) := by decide +kernel
theorem dX0_differences_22 : decode cX0_differences 22 = .ok (.aload_n 0, 1) := by decide +kernel
theorem dX0_differences_23 : decode cX0_differences 23 = .ok (.getfield 16, 3) := by decide +kernel
theorem dX0_differences_26 : decode cX0_differences 26 = .ok (.iload_n 3, 1) := by decide +kernel
theorem dX0_differences_27 : decode cX0_differences 27 = .ok (.iload_n 1, 1) := by decide +kernel
theorem dX0_differences_28 : decode cX0_differences 28 = .ok (.iadd, 1) := by decide +kernel
theorem dX0_differences_29 : decode cX0_differences 29 = .ok (.aload_n 0, 1) := by decide +kernel
theorem dX0_differences_30 : decode cX0_differences 30 = .ok (.getfield 49, 3) := by decide +kernel
theorem dX0_differences_33 : decode cX0_differences 33 = .ok (.irem, 1) := by decide +kernel
theorem dX0_differences_34 : decode cX0_differences 34 = .ok (.iaload, 1) := by decide +kernel
theorem dX0_differences_35 : decode cX0_differences 35 = .ok (.iconst 1, 1) := by decide +kernel
theorem dX0_differences_36 : decode cX0_differences 36 = .ok (.if_icmp .ne 6, 3) := by decide +kernel
theorem dX0_differences_39 : decode cX0_differences 39 = .ok (.iinc 2 1, 3) := by decide +kernel
theorem dX0_differences_42 : decode cX0_differences 42 = .ok (.iinc 3 1, 3) := by decide +kernel
theorem dX0_differences_45 : decode cX0_differences 45 = .ok (.goto (-41), 3) := by decide +kernel
theorem dX0_differences_48 : decode cX0_differences 48 = .ok (.iload_n 2, 1) := by decide +kernel
theorem dX0_differences_49 : decode cX0_differences 49 = .ok (.ireturn, 1) := by decide +kernel
theorem dX0_classNumberBySums_0 : decode cX0_classNumberBySums 0 = .ok (.iconst 0, 1) := by decide +kernel
theorem dX0_classNumberBySums_1 : decode cX0_classNumberBySums 1 = .ok (.istore_n 1, 1) := by decide +kernel
theorem dX0_classNumberBySums_2 : decode cX0_classNumberBySums 2 = .ok (.iconst 1, 1) := by decide +kernel
theorem dX0_classNumberBySums_3 : decode cX0_classNumberBySums 3 = .ok (.istore_n 2, 1) := by decide +kernel
theorem dX0_classNumberBySums_4 : decode cX0_classNumberBySums 4 = .ok (.iload_n 2, 1) := by decide +kernel
theorem dX0_classNumberBySums_5 : decode cX0_classNumberBySums 5 = .ok (.aload_n 0, 1) := by decide +kernel
theorem dX0_classNumberBySums_6 : decode cX0_classNumberBySums 6 = .ok (.getfield 49, 3) := by decide +kernel
theorem dX0_classNumberBySums_9 : decode cX0_classNumberBySums 9 = .ok (.if_icmp .ge 29, 3) := by decide +kernel
theorem dX0_classNumberBySums_12 : decode cX0_classNumberBySums 12 = .ok (.iload_n 1, 1) := by decide +kernel
theorem dX0_classNumberBySums_13 : decode cX0_classNumberBySums 13 = .ok (.aload_n 0, 1) := by decide +kernel
theorem dX0_classNumberBySums_14 : decode cX0_classNumberBySums 14 = .ok (.getfield 9, 3) := by decide +kernel
theorem dX0_classNumberBySums_17 : decode cX0_classNumberBySums 17 = .ok (.iload_n 2, 1) := by decide +kernel
theorem dX0_classNumberBySums_18 : decode cX0_classNumberBySums 18 = .ok (.iaload, 1) := by decide +kernel
theorem dX0_classNumberBySums_19 : decode cX0_classNumberBySums 19 = .ok (.iconst 2, 1) := by decide +kernel
theorem dX0_classNumberBySums_20 : decode cX0_classNumberBySums 20 = .ok (.irem, 1) := by decide +kernel
theorem dX0_classNumberBySums_21 : decode cX0_classNumberBySums 21 = .ok (.ifCond .ne 7, 3) := by decide +kernel
theorem dX0_classNumberBySums_24 : decode cX0_classNumberBySums 24 = .ok (.iload_n 2, 1) := by decide +kernel
theorem dX0_classNumberBySums_25 : decode cX0_classNumberBySums 25 = .ok (.goto 5, 3) := by decide +kernel
theorem dX0_classNumberBySums_28 : decode cX0_classNumberBySums 28 = .ok (.iload_n 2, 1) := by decide +kernel
theorem dX0_classNumberBySums_29 : decode cX0_classNumberBySums 29 = .ok (.ineg, 1) := by decide +kernel
theorem dX0_classNumberBySums_30 : decode cX0_classNumberBySums 30 = .ok (.iadd, 1) := by decide +kernel
theorem dX0_classNumberBySums_31 : decode cX0_classNumberBySums 31 = .ok (.istore_n 1, 1) := by decide +kernel
theorem dX0_classNumberBySums_32 : decode cX0_classNumberBySums 32 = .ok (.iinc 2 1, 3) := by decide +kernel
theorem dX0_classNumberBySums_35 : decode cX0_classNumberBySums 35 = .ok (.goto (-31), 3) := by decide +kernel
theorem dX0_classNumberBySums_38 : decode cX0_classNumberBySums 38 = .ok (.iload_n 1, 1) := by decide +kernel
theorem dX0_classNumberBySums_39 : decode cX0_classNumberBySums 39 = .ok (.aload_n 0, 1) := by decide +kernel
theorem dX0_classNumberBySums_40 : decode cX0_classNumberBySums 40 = .ok (.getfield 49, 3) := by decide +kernel
theorem dX0_classNumberBySums_43 : decode cX0_classNumberBySums 43 = .ok (.ineg, 1) := by decide +kernel
theorem dX0_classNumberBySums_44 : decode cX0_classNumberBySums 44 = .ok (.idiv, 1) := by decide +kernel
theorem dX0_classNumberBySums_45 : decode cX0_classNumberBySums 45 = .ok (.ireturn, 1) := by decide +kernel
set_option maxRecDepth 20000 in
theorem ggX0_classNumberByForms_X0_isForm : GoodIn wsX0_classNumberByForms wsX0_isForm := goodIn_r _ [6, 1, 7, 8, 9, 10, 11, 12, 13, 14, 15, 16, 17, 18] (by decide +kernel) (by decide +kernel)
set_option maxRecDepth 20000 in
theorem gX0_classNumberByForms_X0_isForm : GoodIn wsX0_classNumberByForms (wsV RX0 162 RX0 yX0_isForm wsX0_isForm) := goodIn_app (goodIn_of _ (by decide +kernel)) ggX0_classNumberByForms_X0_isForm
theorem dX0_classNumberByForms_0 : decode cX0_classNumberByForms 0 = .ok (.iconst 0, 1) := by decide +kernel
theorem dX0_classNumberByForms_1 : decode cX0_classNumberByForms 1 = .ok (.istore_n 1, 1) := by decide +kernel
theorem dX0_classNumberByForms_2 : decode cX0_classNumberByForms 2 = .ok (.iconst 1, 1) := by decide +kernel
theorem dX0_classNumberByForms_3 : decode cX0_classNumberByForms 3 = .ok (.istore_n 2, 1) := by decide +kernel
theorem dX0_classNumberByForms_4 : decode cX0_classNumberByForms 4 = .ok (.iconst 3, 1) := by decide +kernel
theorem dX0_classNumberByForms_5 : decode cX0_classNumberByForms 5 = .ok (.iload_n 2, 1) := by decide +kernel
theorem dX0_classNumberByForms_6 : decode cX0_classNumberByForms 6 = .ok (.imul, 1) := by decide +kernel
theorem dX0_classNumberByForms_7 : decode cX0_classNumberByForms 7 = .ok (.iload_n 2, 1) := by decide +kernel
theorem dX0_classNumberByForms_8 : decode cX0_classNumberByForms 8 = .ok (.imul, 1) := by decide +kernel
theorem dX0_classNumberByForms_9 : decode cX0_classNumberByForms 9 = .ok (.aload_n 0, 1) := by decide +kernel
theorem dX0_classNumberByForms_10 : decode cX0_classNumberByForms 10 = .ok (.getfield 49, 3) := by decide +kernel
theorem dX0_classNumberByForms_13 : decode cX0_classNumberByForms 13 = .ok (.if_icmp .gt 35, 3) := by decide +kernel
theorem dX0_classNumberByForms_16 : decode cX0_classNumberByForms 16 = .ok (.iload_n 2, 1) := by decide +kernel
theorem dX0_classNumberByForms_17 : decode cX0_classNumberByForms 17 = .ok (.ineg, 1) := by decide +kernel
theorem dX0_classNumberByForms_18 : decode cX0_classNumberByForms 18 = .ok (.istore_n 3, 1) := by decide +kernel
theorem dX0_classNumberByForms_19 : decode cX0_classNumberByForms 19 = .ok (.iload_n 3, 1) := by decide +kernel
theorem dX0_classNumberByForms_20 : decode cX0_classNumberByForms 20 = .ok (.iload_n 2, 1) := by decide +kernel
theorem dX0_classNumberByForms_21 : decode cX0_classNumberByForms 21 = .ok (.if_icmp .gt 21, 3) := by decide +kernel
theorem dX0_classNumberByForms_24 : decode cX0_classNumberByForms 24 = .ok (.aload_n 0, 1) := by decide +kernel
theorem dX0_classNumberByForms_25 : decode cX0_classNumberByForms 25 = .ok (.iload_n 2, 1) := by decide +kernel
theorem dX0_classNumberByForms_26 : decode cX0_classNumberByForms 26 = .ok (.iload_n 3, 1) := by decide +kernel
theorem dX0_classNumberByForms_27 : decode cX0_classNumberByForms 27 = .ok (.invokevirtual 162, 3) := by decide +kernel
theorem dX0_classNumberByForms_30 : decode cX0_classNumberByForms 30 = .ok (.ifCond .eq 6, 3) := by decide +kernel
theorem dX0_classNumberByForms_33 : decode cX0_classNumberByForms 33 = .ok (.iinc 1 1, 3) := by decide +kernel
theorem dX0_classNumberByForms_36 : decode cX0_classNumberByForms 36 = .ok (.iinc 3 1, 3) := by decide +kernel
theorem dX0_classNumberByForms_39 : decode cX0_classNumberByForms 39 = .ok (.goto (-20), 3) := by decide +kernel
theorem dX0_classNumberByForms_42 : decode cX0_classNumberByForms 42 = .ok (.iinc 2 1, 3) := by decide +kernel
theorem dX0_classNumberByForms_45 : decode cX0_classNumberByForms 45 = .ok (.goto (-41), 3) := by decide +kernel
theorem dX0_classNumberByForms_48 : decode cX0_classNumberByForms 48 = .ok (.iload_n 1, 1) := by decide +kernel
theorem dX0_classNumberByForms_49 : decode cX0_classNumberByForms 49 = .ok (.ireturn, 1) := by decide +kernel
theorem dX0_isForm_0 : decode cX0_isForm 0 = .ok (.iload_n 2, 1) := by decide +kernel
theorem dX0_isForm_1 : decode cX0_isForm 1 = .ok (.iload_n 2, 1) := by decide +kernel
theorem dX0_isForm_2 : decode cX0_isForm 2 = .ok (.imul, 1) := by decide +kernel
theorem dX0_isForm_3 : decode cX0_isForm 3 = .ok (.aload_n 0, 1) := by decide +kernel
theorem dX0_isForm_4 : decode cX0_isForm 4 = .ok (.getfield 49, 3) := by decide +kernel
theorem dX0_isForm_7 : decode cX0_isForm 7 = .ok (.iadd, 1) := by decide +kernel
theorem dX0_isForm_8 : decode cX0_isForm 8 = .ok (.istore_n 3, 1) := by decide +kernel
theorem dX0_isForm_9 : decode cX0_isForm 9 = .ok (.iload_n 3, 1) := by decide +kernel
theorem dX0_isForm_10 : decode cX0_isForm 10 = .ok (.iconst 4, 1) := by decide +kernel
theorem dX0_isForm_11 : decode cX0_isForm 11 = .ok (.iload_n 1, 1) := by decide +kernel
theorem dX0_isForm_12 : decode cX0_isForm 12 = .ok (.imul, 1) := by decide +kernel
theorem dX0_isForm_13 : decode cX0_isForm 13 = .ok (.irem, 1) := by decide +kernel
theorem dX0_isForm_14 : decode cX0_isForm 14 = .ok (.ifCond .eq 5, 3) := by decide +kernel
theorem dX0_isForm_17 : decode cX0_isForm 17 = .ok (.iconst 0, 1) := by decide +kernel
theorem dX0_isForm_18 : decode cX0_isForm 18 = .ok (.ireturn, 1) := by decide +kernel
theorem dX0_isForm_19 : decode cX0_isForm 19 = .ok (.iload_n 3, 1) := by decide +kernel
theorem dX0_isForm_20 : decode cX0_isForm 20 = .ok (.iconst 4, 1) := by decide +kernel
theorem dX0_isForm_21 : decode cX0_isForm 21 = .ok (.iload_n 1, 1) := by decide +kernel
theorem dX0_isForm_22 : decode cX0_isForm 22 = .ok (.imul, 1) := by decide +kernel
theorem dX0_isForm_23 : decode cX0_isForm 23 = .ok (.idiv, 1) := by decide +kernel
theorem dX0_isForm_24 : decode cX0_isForm 24 = .ok (.istore 4, 2) := by decide +kernel
theorem dX0_isForm_26 : decode cX0_isForm 26 = .ok (.iload_n 2, 1) := by decide +kernel
theorem dX0_isForm_27 : decode cX0_isForm 27 = .ok (.iload_n 1, 1) := by decide +kernel
theorem dX0_isForm_28 : decode cX0_isForm 28 = .ok (.if_icmp .eq 15, 3) := by decide +kernel
theorem dX0_isForm_31 : decode cX0_isForm 31 = .ok (.iload_n 2, 1) := by decide +kernel
theorem dX0_isForm_32 : decode cX0_isForm 32 = .ok (.iload_n 1, 1) := by decide +kernel
theorem dX0_isForm_33 : decode cX0_isForm 33 = .ok (.ineg, 1) := by decide +kernel
theorem dX0_isForm_34 : decode cX0_isForm 34 = .ok (.if_icmp .eq 9, 3) := by decide +kernel
theorem dX0_isForm_37 : decode cX0_isForm 37 = .ok (.iload_n 1, 1) := by decide +kernel
theorem dX0_isForm_38 : decode cX0_isForm 38 = .ok (.iload 4, 2) := by decide +kernel
theorem dX0_isForm_40 : decode cX0_isForm 40 = .ok (.if_icmp .ne 7, 3) := by decide +kernel
theorem dX0_isForm_43 : decode cX0_isForm 43 = .ok (.iconst 1, 1) := by decide +kernel
theorem dX0_isForm_44 : decode cX0_isForm 44 = .ok (.goto 4, 3) := by decide +kernel
theorem dX0_isForm_47 : decode cX0_isForm 47 = .ok (.iconst 0, 1) := by decide +kernel
theorem dX0_isForm_48 : decode cX0_isForm 48 = .ok (.istore 5, 2) := by decide +kernel
theorem dX0_isForm_50 : decode cX0_isForm 50 = .ok (.iload_n 1, 1) := by decide +kernel
theorem dX0_isForm_51 : decode cX0_isForm 51 = .ok (.iload 4, 2) := by decide +kernel
theorem dX0_isForm_53 : decode cX0_isForm 53 = .ok (.if_icmp .gt 16, 3) := by decide +kernel
theorem dX0_isForm_56 : decode cX0_isForm 56 = .ok (.iload_n 2, 1) := by decide +kernel
theorem dX0_isForm_57 : decode cX0_isForm 57 = .ok (.ifCond .ge 8, 3) := by decide +kernel
theorem dX0_isForm_60 : decode cX0_isForm 60 = .ok (.iload 5, 2) := by decide +kernel
theorem dX0_isForm_62 : decode cX0_isForm 62 = .ok (.ifCond .ne 7, 3) := by decide +kernel
theorem dX0_isForm_65 : decode cX0_isForm 65 = .ok (.iconst 1, 1) := by decide +kernel
theorem dX0_isForm_66 : decode cX0_isForm 66 = .ok (.goto 4, 3) := by decide +kernel
theorem dX0_isForm_69 : decode cX0_isForm 69 = .ok (.iconst 0, 1) := by decide +kernel
theorem dX0_isForm_70 : decode cX0_isForm 70 = .ok (.ireturn, 1) := by decide +kernel
end
section
set_option maxRecDepth 20000 in
theorem ggX1_init_X1_begin : GoodIn wsX1_init wsX1_begin := goodIn_r _ [17, 18, 19, 5, 20, 21, 22, 16, 23, 24, 25, 7, 8, 26, 27, 28, 29, 30, 31, 32, 33, 34, 35, 36, 37, 38, 39] (by decide +kernel) (by decide +kernel)
set_option maxRecDepth 20000 in
theorem gX1_init_X1_begin : GoodIn wsX1_init (wsV RX1 32 RX1 yX1_begin wsX1_begin) := goodIn_app (goodIn_of _ (by decide +kernel)) ggX1_init_X1_begin
theorem dX1_init_0 : decode cX1_init 0 = .ok (.aload_n 0, 1) := by decide +kernel
theorem dX1_init_1 : decode cX1_init 1 = .ok (.invokespecial 1, 3) := by decide +kernel
theorem dX1_init_4 : decode cX1_init 4 = .ok (.aload_n 0, 1) := by decide +kernel
theorem dX1_init_5 : decode cX1_init 5 = .ok (.sipush 200, 3) := by decide +kernel
theorem dX1_init_8 : decode cX1_init 8 = .ok (.newarray .int, 2) := by decide +kernel
theorem dX1_init_10 : decode cX1_init 10 = .ok (.putfield 7, 3) := by decide +kernel
theorem dX1_init_13 : decode cX1_init 13 = .ok (.aload_n 0, 1) := by decide +kernel
theorem dX1_init_14 : decode cX1_init 14 = .ok (.bipush 72, 2) := by decide +kernel
theorem dX1_init_16 : decode cX1_init 16 = .ok (.newarray .long, 2) := by decide +kernel
theorem dX1_init_18 : decode cX1_init 18 = .ok (.putfield 13, 3) := by decide +kernel
theorem dX1_init_21 : decode cX1_init 21 = .ok (.aload_n 0, 1) := by decide +kernel
theorem dX1_init_22 : decode cX1_init 22 = .ok (.bipush 13, 2) := by decide +kernel
theorem dX1_init_24 : decode cX1_init 24 = .ok (.newarray .int, 2) := by decide +kernel
theorem dX1_init_26 : decode cX1_init 26 = .ok (.putfield 17, 3) := by decide +kernel
theorem dX1_init_29 : decode cX1_init 29 = .ok (.aload_n 0, 1) := by decide +kernel
theorem dX1_init_30 : decode cX1_init 30 = .ok (.bipush 24, 2) := by decide +kernel
theorem dX1_init_32 : decode cX1_init 32 = .ok (.newarray .long, 2) := by decide +kernel
theorem dX1_init_34 : decode cX1_init 34 = .ok (.putfield 20, 3) := by decide +kernel
theorem dX1_init_37 : decode cX1_init 37 = .ok (.aload_n 0, 1) := by decide +kernel
theorem dX1_init_38 : decode cX1_init 38 = .ok (.bipush 24, 2) := by decide +kernel
theorem dX1_init_40 : decode cX1_init 40 = .ok (.newarray .long, 2) := by decide +kernel
theorem dX1_init_42 : decode cX1_init 42 = .ok (.putfield 23, 3) := by decide +kernel
theorem dX1_init_45 : decode cX1_init 45 = .ok (.aload_n 0, 1) := by decide +kernel
theorem dX1_init_46 : decode cX1_init 46 = .ok (.sipush 200, 3) := by decide +kernel
theorem dX1_init_49 : decode cX1_init 49 = .ok (.newarray .long, 2) := by decide +kernel
theorem dX1_init_51 : decode cX1_init 51 = .ok (.putfield 26, 3) := by decide +kernel
theorem dX1_init_54 : decode cX1_init 54 = .ok (.aload_n 0, 1) := by decide +kernel
theorem dX1_init_55 : decode cX1_init 55 = .ok (.sipush 200, 3) := by decide +kernel
theorem dX1_init_58 : decode cX1_init 58 = .ok (.newarray .long, 2) := by decide +kernel
theorem dX1_init_60 : decode cX1_init 60 = .ok (.putfield 29, 3) := by decide +kernel
theorem dX1_init_63 : decode cX1_init 63 = .ok (.aload_n 0, 1) := by decide +kernel
theorem dX1_init_64 : decode cX1_init 64 = .ok (.bipush 13, 2) := by decide +kernel
theorem dX1_init_66 : decode cX1_init 66 = .ok (.invokevirtual 32, 3) := by decide +kernel
theorem dX1_init_69 : decode cX1_init 69 = .ok (.return_, 1) := by decide +kernel
theorem dX1_in_0 : decode cX1_in 0 = .ok (.lload_n 0, 1) := by decide +kernel
theorem dX1_in_1 : decode cX1_in 1 = .ok (.lload_n 2, 1) := by decide +kernel
theorem dX1_in_2 : decode cX1_in 2 = .ok (.lcmp, 1) := by decide +kernel
theorem dX1_in_3 : decode cX1_in 3 = .ok (.ifCond .lt 14, 3) := by decide +kernel
theorem dX1_in_6 : decode cX1_in 6 = .ok (.lload_n 0, 1) := by decide +kernel
theorem dX1_in_7 : decode cX1_in 7 = .ok (.lload 4, 2) := by decide +kernel
theorem dX1_in_9 : decode cX1_in 9 = .ok (.lcmp, 1) := by decide +kernel
theorem dX1_in_10 : decode cX1_in 10 = .ok (.ifCond .gt 7, 3) := by decide +kernel
theorem dX1_in_13 : decode cX1_in 13 = .ok (.iconst 1, 1) := by decide +kernel
theorem dX1_in_14 : decode cX1_in 14 = .ok (.goto 4, 3) := by decide +kernel
theorem dX1_in_17 : decode cX1_in 17 = .ok (.iconst 0, 1) := by decide +kernel
theorem dX1_in_18 : decode cX1_in 18 = .ok (.ireturn, 1) := by decide +kernel
set_option maxRecDepth 20000 in
theorem ggX1_isHold_X1_in : GoodIn wsX1_isHold wsX1_in := goodIn_r _ [5] (by decide +kernel) (by decide +kernel)
set_option maxRecDepth 20000 in
theorem gX1_isHold_X1_in : GoodIn wsX1_isHold (va_wsS RX1 38 yX1_in wsX1_in) := goodIn_app (goodIn_of _ (by decide +kernel)) ggX1_isHold_X1_in
theorem dX1_isHold_0 : decode cX1_isHold 0 = .ok (.iload_n 0, 1) := by decide +kernel
theorem dX1_isHold_1 : decode cX1_isHold 1 = .ok (.i2l, 1) := by decide +kernel
theorem dX1_isHold_2 : decode cX1_isHold 2 = .ok (.lconst 0, 1) := by decide +kernel
theorem dX1_isHold_3 : decode cX1_isHold 3 = .ok (.ldc2_w 36, 3) := by decide +kernel
theorem dX1_isHold_6 : decode cX1_isHold 6 = .ok (.invokestatic 38, 3) := by decide +kernel
theorem dX1_isHold_9 : decode cX1_isHold 9 = .ok (.ireturn, 1) := by decide +kernel
theorem dX1_rem_0 : decode cX1_rem 0 = .ok (.lload_n 0, 1) := by decide +kernel
theorem dX1_rem_1 : decode cX1_rem 1 = .ok (.iload_n 2, 1) := by decide +kernel
theorem dX1_rem_2 : decode cX1_rem 2 = .ok (.i2l, 1) := by decide +kernel
theorem dX1_rem_3 : decode cX1_rem 3 = .ok (.lrem, 1) := by decide +kernel
theorem dX1_rem_4 : decode cX1_rem 4 = .ok (.l2i, 1) := by decide +kernel
theorem dX1_rem_5 : decode cX1_rem 5 = .ok (.istore_n 3, 1) := by decide +kernel
theorem dX1_rem_6 : decode cX1_rem 6 = .ok (.iload_n 3, 1) := by decide +kernel
theorem dX1_rem_7 : decode cX1_rem 7 = .ok (.ifCond .ge 9, 3) := by decide +kernel
theorem dX1_rem_10 : decode cX1_rem 10 = .ok (.iload_n 3, 1) := by decide +kernel
theorem dX1_rem_11 : decode cX1_rem 11 = .ok (.iload_n 2, 1) := by decide +kernel
theorem dX1_rem_12 : decode cX1_rem 12 = .ok (.iadd, 1) := by decide +kernel
theorem dX1_rem_13 : decode cX1_rem 13 = .ok (.goto 4, 3) := by decide +kernel
theorem dX1_rem_16 : decode cX1_rem 16 = .ok (.iload_n 3, 1) := by decide +kernel
theorem dX1_rem_17 : decode cX1_rem 17 = .ok (.ireturn, 1) := by decide +kernel
theorem dX1_isPrime_0 : decode cX1_isPrime 0 = .ok (.iload_n 0, 1) := by decide +kernel
theorem dX1_isPrime_1 : decode cX1_isPrime 1 = .ok (.iconst 2, 1) := by decide +kernel
theorem dX1_isPrime_2 : decode cX1_isPrime 2 = .ok (.if_icmp .le 14, 3) := by decide +kernel
theorem dX1_isPrime_5 : decode cX1_isPrime 5 = .ok (.iload_n 0, 1) := by decide +kernel
theorem dX1_isPrime_6 : decode cX1_isPrime 6 = .ok (.sipush 200, 3) := by decide +kernel
theorem dX1_isPrime_9 : decode cX1_isPrime 9 = .ok (.if_icmp .ge 7, 3) := by decide +kernel
theorem dX1_isPrime_12 : decode cX1_isPrime 12 = .ok (.iconst 1, 1) := by decide +kernel
theorem dX1_isPrime_13 : decode cX1_isPrime 13 = .ok (.goto 4, 3) := by decide +kernel
theorem dX1_isPrime_16 : decode cX1_isPrime 16 = .ok (.iconst 0, 1) := by decide +kernel
theorem dX1_isPrime_17 : decode cX1_isPrime 17 = .ok (.istore_n 1, 1) := by decide +kernel
theorem dX1_isPrime_18 : decode cX1_isPrime 18 = .ok (.iconst 2, 1) := by decide +kernel
theorem dX1_isPrime_19 : decode cX1_isPrime 19 = .ok (.istore_n 2, 1) := by decide +kernel
theorem dX1_isPrime_20 : decode cX1_isPrime 20 = .ok (.iload_n 2, 1) := by decide +kernel
theorem dX1_isPrime_21 : decode cX1_isPrime 21 = .ok (.iload_n 0, 1) := by decide +kernel
theorem dX1_isPrime_22 : decode cX1_isPrime 22 = .ok (.if_icmp .ge 25, 3) := by decide +kernel
theorem dX1_isPrime_25 : decode cX1_isPrime 25 = .ok (.iload_n 1, 1) := by decide +kernel
theorem dX1_isPrime_26 : decode cX1_isPrime 26 = .ok (.ifCond .eq 21, 3) := by decide +kernel
theorem dX1_isPrime_29 : decode cX1_isPrime 29 = .ok (.iload_n 0, 1) := by decide +kernel
theorem dX1_isPrime_30 : decode cX1_isPrime 30 = .ok (.iload_n 2, 1) := by decide +kernel
theorem dX1_isPrime_31 : decode cX1_isPrime 31 = .ok (.irem, 1) := by decide +kernel
theorem dX1_isPrime_32 : decode cX1_isPrime 32 = .ok (.ifCond .eq 7, 3) := by decide +kernel
theorem dX1_isPrime_35 : decode cX1_isPrime 35 = .ok (.iconst 1, 1) := by decide +kernel
theorem dX1_isPrime_36 : decode cX1_isPrime 36 = .ok (.goto 4, 3) := by decide +kernel
theorem dX1_isPrime_39 : decode cX1_isPrime 39 = .ok (.iconst 0, 1) := by decide +kernel
theorem dX1_isPrime_40 : decode cX1_isPrime 40 = .ok (.istore_n 1, 1) := by decide +kernel
theorem dX1_isPrime_41 : decode cX1_isPrime 41 = .ok (.iinc 2 1, 3) := by decide +kernel
theorem dX1_isPrime_44 : decode cX1_isPrime 44 = .ok (.goto (-24), 3) := by decide +kernel
theorem dX1_isPrime_47 : decode cX1_isPrime 47 = .ok (.iload_n 1, 1) := by decide +kernel
theorem dX1_isPrime_48 : decode cX1_isPrime 48 = .ok (.ireturn, 1) := by decide +kernel
set_option maxRecDepth 20000 in
theorem ggX1_begin_X1_setDegree : GoodIn wsX1_begin wsX1_setDegree := goodIn_r _ [8, 9, 10, 11, 12, 13, 14, 7, 15, 16, 17, 18, 19, 20, 21, 22, 23, 24, 25, 26] (by decide +kernel) (by decide +kernel)
set_option maxRecDepth 20000 in
theorem gX1_begin_X1_setDegree : GoodIn wsX1_begin (wsV RX1 49 RX1 yX1_setDegree wsX1_setDegree) := goodIn_app (goodIn_of _ (by decide +kernel)) ggX1_begin_X1_setDegree
theorem dX1_begin_0 : decode cX1_begin 0 = .ok (.aload_n 0, 1) := by decide +kernel
theorem dX1_begin_1 : decode cX1_begin 1 = .ok (.iload_n 1, 1) := by decide +kernel
theorem dX1_begin_2 : decode cX1_begin 2 = .ok (.putfield 42, 3) := by decide +kernel
theorem dX1_begin_5 : decode cX1_begin 5 = .ok (.aload_n 0, 1) := by decide +kernel
theorem dX1_begin_6 : decode cX1_begin 6 = .ok (.iconst 1, 1) := by decide +kernel
theorem dX1_begin_7 : decode cX1_begin 7 = .ok (.putfield 46, 3) := by decide +kernel
theorem dX1_begin_10 : decode cX1_begin 10 = .ok (.iconst 0, 1) := by decide +kernel
theorem dX1_begin_11 : decode cX1_begin 11 = .ok (.istore_n 2, 1) := by decide +kernel
theorem dX1_begin_12 : decode cX1_begin 12 = .ok (.iload_n 2, 1) := by decide +kernel
theorem dX1_begin_13 : decode cX1_begin 13 = .ok (.aload_n 0, 1) := by decide +kernel
theorem dX1_begin_14 : decode cX1_begin 14 = .ok (.getfield 42, 3) := by decide +kernel
theorem dX1_begin_17 : decode cX1_begin 17 = .ok (.iconst 1, 1) := by decide +kernel
theorem dX1_begin_18 : decode cX1_begin 18 = .ok (.isub, 1) := by decide +kernel
theorem dX1_begin_19 : decode cX1_begin 19 = .ok (.if_icmp .ge 77, 3) := by decide +kernel
theorem dX1_begin_22 : decode cX1_begin 22 = .ok (.aload_n 0, 1) := by decide +kernel
theorem dX1_begin_23 : decode cX1_begin 23 = .ok (.dup, 1) := by decide +kernel
theorem dX1_begin_24 : decode cX1_begin 24 = .ok (.getfield 46, 3) := by decide +kernel
theorem dX1_begin_27 : decode cX1_begin 27 = .ok (.iconst 1, 1) := by decide +kernel
theorem dX1_begin_28 : decode cX1_begin 28 = .ok (.iadd, 1) := by decide +kernel
theorem dX1_begin_29 : decode cX1_begin 29 = .ok (.putfield 46, 3) := by decide +kernel
theorem dX1_begin_32 : decode cX1_begin 32 = .ok (.iconst 0, 1) := by decide +kernel
theorem dX1_begin_33 : decode cX1_begin 33 = .ok (.istore_n 3, 1) := by decide +kernel
theorem dX1_begin_34 : decode cX1_begin 34 = .ok (.iload_n 3, 1) := by decide +kernel
theorem dX1_begin_35 : decode cX1_begin 35 = .ok (.sipush 200, 3) := by decide +kernel
theorem dX1_begin_38 : decode cX1_begin 38 = .ok (.if_icmp .ge 16, 3) := by decide +kernel
theorem dX1_begin_41 : decode cX1_begin 41 = .ok (.aload_n 0, 1) := by decide +kernel
theorem dX1_begin_42 : decode cX1_begin 42 = .ok (.getfield 7, 3) := by decide +kernel
theorem dX1_begin_45 : decode cX1_begin 45 = .ok (.iload_n 3, 1) := by decide +kernel
theorem dX1_begin_46 : decode cX1_begin 46 = .ok (.iconst (-1), 1) := by decide +kernel
theorem dX1_begin_47 : decode cX1_begin 47 = .ok (.iastore, 1) := by decide +kernel
theorem dX1_begin_48 : decode cX1_begin 48 = .ok (.iinc 3 1, 3) := by decide +kernel
theorem dX1_begin_51 : decode cX1_begin 51 = .ok (.goto (-17), 3) := by decide +kernel
theorem dX1_begin_54 : decode cX1_begin 54 = .ok (.iconst 0, 1) := by decide +kernel
theorem dX1_begin_55 : decode cX1_begin 55 = .ok (.istore_n 2, 1) := by decide +kernel
theorem dX1_begin_56 : decode cX1_begin 56 = .ok (.iconst 1, 1) := by decide +kernel
theorem dX1_begin_57 : decode cX1_begin 57 = .ok (.istore_n 3, 1) := by decide +kernel
theorem dX1_begin_58 : decode cX1_begin 58 = .ok (.aload_n 0, 1) := by decide +kernel
theorem dX1_begin_59 : decode cX1_begin 59 = .ok (.getfield 7, 3) := by decide +kernel
theorem dX1_begin_62 : decode cX1_begin 62 = .ok (.iload_n 3, 1) := by decide +kernel
theorem dX1_begin_63 : decode cX1_begin 63 = .ok (.iaload, 1) := by decide +kernel
theorem dX1_begin_64 : decode cX1_begin 64 = .ok (.iconst (-1), 1) := by decide +kernel
theorem dX1_begin_65 : decode cX1_begin 65 = .ok (.if_icmp .ne 28, 3) := by decide +kernel
theorem dX1_begin_68 : decode cX1_begin 68 = .ok (.aload_n 0, 1) := by decide +kernel
theorem dX1_begin_69 : decode cX1_begin 69 = .ok (.getfield 7, 3) := by decide +kernel
theorem dX1_begin_72 : decode cX1_begin 72 = .ok (.iload_n 3, 1) := by decide +kernel
theorem dX1_begin_73 : decode cX1_begin 73 = .ok (.iload_n 2, 1) := by decide +kernel
theorem dX1_begin_74 : decode cX1_begin 74 = .ok (.iastore, 1) := by decide +kernel
theorem dX1_begin_75 : decode cX1_begin 75 = .ok (.iinc 2 1, 3) := by decide +kernel
theorem dX1_begin_78 : decode cX1_begin 78 = .ok (.iload_n 3, 1) := by decide +kernel
theorem dX1_begin_79 : decode cX1_begin 79 = .ok (.aload_n 0, 1) := by decide +kernel
theorem dX1_begin_80 : decode cX1_begin 80 = .ok (.getfield 46, 3) := by decide +kernel
theorem dX1_begin_83 : decode cX1_begin 83 = .ok (.imul, 1) := by decide +kernel
theorem dX1_begin_84 : decode cX1_begin 84 = .ok (.aload_n 0, 1) := by decide +kernel
theorem dX1_begin_85 : decode cX1_begin 85 = .ok (.getfield 42, 3) := by decide +kernel
theorem dX1_begin_88 : decode cX1_begin 88 = .ok (.irem, 1) := by decide +kernel
theorem dX1_begin_89 : decode cX1_begin 89 = .ok (.istore_n 3, 1) := by decide +kernel
theorem dX1_begin_90 : decode cX1_begin 90 = .ok (.goto (-32), 3) := by decide +kernel
theorem dX1_begin_93 : decode cX1_begin 93 = .ok (.goto (-81), 3) := by decide +kernel
theorem dX1_begin_96 : decode cX1_begin 96 = .ok (.aload_n 0, 1) := by decide +kernel
theorem dX1_begin_97 : decode cX1_begin 97 = .ok (.iconst 2, 1) := by decide +kernel
theorem dX1_begin_98 : decode cX1_begin 98 = .ok (.invokevirtual 49, 3) := by decide +kernel
theorem dX1_begin_101 : decode cX1_begin 101 = .ok (.return_, 1) := by decide +kernel
theorem dX1_common_0 : decode cX1_common 0 = .ok (.iload_n 0, 1) := by decide +kernel
theorem dX1_common_1 : decode cX1_common 1 = .ok (.istore_n 2, 1) := by decide +kernel
theorem dX1_common_2 : decode cX1_common 2 = .ok (.iload_n 1, 1) := by decide +kernel
theorem dX1_common_3 : decode cX1_common 3 = .ok (.istore_n 3, 1) := by decide +kernel
theorem dX1_common_4 : decode cX1_common 4 = .ok (.iload_n 3, 1) := by decide +kernel
theorem dX1_common_5 : decode cX1_common 5 = .ok (.ifCond .eq 16, 3) := by decide +kernel
theorem dX1_common_8 : decode cX1_common 8 = .ok (.iload_n 2, 1) := by decide +kernel
theorem dX1_common_9 : decode cX1_common 9 = .ok (.iload_n 3, 1) := by decide +kernel
theorem dX1_common_10 : decode cX1_common 10 = .ok (.irem, 1) := by decide +kernel
theorem dX1_common_11 : decode cX1_common 11 = .ok (.istore 4, 2) := by decide +kernel
theorem dX1_common_13 : decode cX1_common 13 = .ok (.iload_n 3, 1) := by decide +kernel
theorem dX1_common_14 : decode cX1_common 14 = .ok (.istore_n 2, 1) := by decide +kernel
theorem dX1_common_15 : decode cX1_common 15 = .ok (.iload 4, 2) := by decide +kernel
theorem dX1_common_17 : decode cX1_common 17 = .ok (.istore_n 3, 1) := by decide +kernel
theorem dX1_common_18 : decode cX1_common 18 = .ok (.goto (-14), 3) := by decide +kernel
theorem dX1_common_21 : decode cX1_common 21 = .ok (.iload_n 2, 1) := by decide +kernel
theorem dX1_common_22 : decode cX1_common 22 = .ok (.ireturn, 1) := by decide +kernel
set_option maxRecDepth 20000 in
theorem ggX1_setDegree_X1_common : GoodIn wsX1_setDegree wsX1_common := goodIn_r _ [8] (by decide +kernel) (by decide +kernel)
set_option maxRecDepth 20000 in
theorem gX1_setDegree_X1_common : GoodIn wsX1_setDegree (va_wsS RX1 58 yX1_common wsX1_common) := goodIn_app (goodIn_of _ (by decide +kernel)) ggX1_setDegree_X1_common
theorem dX1_setDegree_0 : decode cX1_setDegree 0 = .ok (.aload_n 0, 1) := by decide +kernel
theorem dX1_setDegree_1 : decode cX1_setDegree 1 = .ok (.iload_n 1, 1) := by decide +kernel
theorem dX1_setDegree_2 : decode cX1_setDegree 2 = .ok (.putfield 52, 3) := by decide +kernel
theorem dX1_setDegree_5 : decode cX1_setDegree 5 = .ok (.aload_n 0, 1) := by decide +kernel
theorem dX1_setDegree_6 : decode cX1_setDegree 6 = .ok (.iconst 0, 1) := by decide +kernel
theorem dX1_setDegree_7 : decode cX1_setDegree 7 = .ok (.putfield 55, 3) := by decide +kernel
theorem dX1_setDegree_10 : decode cX1_setDegree 10 = .ok (.iconst 1, 1) := by decide +kernel
theorem dX1_setDegree_11 : decode cX1_setDegree 11 = .ok (.istore_n 2, 1) := by decide +kernel
theorem dX1_setDegree_12 : decode cX1_setDegree 12 = .ok (.iload_n 2, 1) := by decide +kernel
theorem dX1_setDegree_13 : decode cX1_setDegree 13 = .ok (.aload_n 0, 1) := by decide +kernel
theorem dX1_setDegree_14 : decode cX1_setDegree 14 = .ok (.getfield 52, 3) := by decide +kernel
theorem dX1_setDegree_17 : decode cX1_setDegree 17 = .ok (.if_icmp .gt 35, 3) := by decide +kernel
theorem dX1_setDegree_20 : decode cX1_setDegree 20 = .ok (.aload_n 0, 1) := by decide +kernel
theorem dX1_setDegree_21 : decode cX1_setDegree 21 = .ok (.dup, 1) := by decide +kernel
theorem dX1_setDegree_22 : decode cX1_setDegree 22 = .ok (.getfield 55, 3) := by decide +kernel
theorem dX1_setDegree_25 : decode cX1_setDegree 25 = .ok (.iload_n 2, 1) := by decide +kernel
theorem dX1_setDegree_26 : decode cX1_setDegree 26 = .ok (.aload_n 0, 1) := by decide +kernel
theorem dX1_setDegree_27 : decode cX1_setDegree 27 = .ok (.getfield 52, 3) := by decide +kernel
theorem dX1_setDegree_30 : decode cX1_setDegree 30 = .ok (.invokestatic 58, 3) := by decide +kernel
theorem dX1_setDegree_33 : decode cX1_setDegree 33 = .ok (.iconst 1, 1) := by decide +kernel
theorem dX1_setDegree_34 : decode cX1_setDegree 34 = .ok (.if_icmp .ne 7, 3) := by decide +kernel
theorem dX1_setDegree_37 : decode cX1_setDegree 37 = .ok (.iconst 1, 1) := by decide +kernel
theorem dX1_setDegree_38 : decode cX1_setDegree 38 = .ok (.goto 4, 3) := by decide +kernel
theorem dX1_setDegree_41 : decode cX1_setDegree 41 = .ok (.iconst 0, 1) := by decide +kernel
theorem dX1_setDegree_42 : decode cX1_setDegree 42 = .ok (.iadd, 1) := by decide +kernel
theorem dX1_setDegree_43 : decode cX1_setDegree 43 = .ok (.putfield 55, 3) := by decide +kernel
theorem dX1_setDegree_46 : decode cX1_setDegree 46 = .ok (.iinc 2 1, 3) := by decide +kernel
theorem dX1_setDegree_49 : decode cX1_setDegree 49 = .ok (.goto (-37), 3) := by decide +kernel
theorem dX1_setDegree_52 : decode cX1_setDegree 52 = .ok (.iconst 0, 1) := by decide +kernel
theorem dX1_setDegree_53 : decode cX1_setDegree 53 = .ok (.istore_n 2, 1) := by decide +kernel
theorem dX1_setDegree_54 : decode cX1_setDegree 54 = .ok (.iload_n 2, 1) := by decide +kernel
theorem dX1_setDegree_55 : decode cX1_setDegree 55 = .ok (.bipush 72, 2) := by decide +kernel
theorem dX1_setDegree_57 : decode cX1_setDegree 57 = .ok (.if_icmp .ge 16, 3) := by decide +kernel
theorem dX1_setDegree_60 : decode cX1_setDegree 60 = .ok (.aload_n 0, 1) := by decide +kernel
theorem dX1_setDegree_61 : decode cX1_setDegree 61 = .ok (.getfield 13, 3) := by decide +kernel
theorem dX1_setDegree_64 : decode cX1_setDegree 64 = .ok (.iload_n 2, 1) := by decide +kernel
theorem dX1_setDegree_65 : decode cX1_setDegree 65 = .ok (.lconst 0, 1) := by decide +kernel
theorem dX1_setDegree_66 : decode cX1_setDegree 66 = .ok (.lastore, 1) := by decide +kernel
theorem dX1_setDegree_67 : decode cX1_setDegree 67 = .ok (.iinc 2 1, 3) := by decide +kernel
theorem dX1_setDegree_70 : decode cX1_setDegree 70 = .ok (.goto (-16), 3) := by decide +kernel
theorem dX1_setDegree_73 : decode cX1_setDegree 73 = .ok (.iconst 0, 1) := by decide +kernel
theorem dX1_setDegree_74 : decode cX1_setDegree 74 = .ok (.istore_n 2, 1) := by decide +kernel
theorem dX1_setDegree_75 : decode cX1_setDegree 75 = .ok (.iload_n 2, 1) := by decide +kernel
theorem dX1_setDegree_76 : decode cX1_setDegree 76 = .ok (.bipush 13, 2) := by decide +kernel
theorem dX1_setDegree_78 : decode cX1_setDegree 78 = .ok (.if_icmp .ge 16, 3) := by decide +kernel
theorem dX1_setDegree_81 : decode cX1_setDegree 81 = .ok (.aload_n 0, 1) := by decide +kernel
theorem dX1_setDegree_82 : decode cX1_setDegree 82 = .ok (.getfield 17, 3) := by decide +kernel
theorem dX1_setDegree_85 : decode cX1_setDegree 85 = .ok (.iload_n 2, 1) := by decide +kernel
theorem dX1_setDegree_86 : decode cX1_setDegree 86 = .ok (.iconst 0, 1) := by decide +kernel
theorem dX1_setDegree_87 : decode cX1_setDegree 87 = .ok (.iastore, 1) := by decide +kernel
theorem dX1_setDegree_88 : decode cX1_setDegree 88 = .ok (.iinc 2 1, 3) := by decide +kernel
theorem dX1_setDegree_91 : decode cX1_setDegree 91 = .ok (.goto (-16), 3) := by decide +kernel
theorem dX1_setDegree_94 : decode cX1_setDegree 94 = .ok (.aload_n 0, 1) := by decide +kernel
theorem dX1_setDegree_95 : decode cX1_setDegree 95 = .ok (.getfield 52, 3) := by decide +kernel
theorem dX1_setDegree_98 : decode cX1_setDegree 98 = .ok (.iconst 1, 1) := by decide +kernel
theorem dX1_setDegree_99 : decode cX1_setDegree 99 = .ok (.if_icmp .ne 13, 3) := by decide +kernel
theorem dX1_setDegree_102 : decode cX1_setDegree 102 = .ok (.aload_n 0, 1) := by decide +kernel
theorem dX1_setDegree_103 : decode cX1_setDegree 103 = .ok (.getfield 17, 3) := by decide +kernel
theorem dX1_setDegree_106 : decode cX1_setDegree 106 = .ok (.iconst 0, 1) := by decide +kernel
theorem dX1_setDegree_107 : decode cX1_setDegree 107 = .ok (.iconst (-1), 1) := by decide +kernel
theorem dX1_setDegree_108 : decode cX1_setDegree 108 = .ok (.iastore, 1) := by decide +kernel
theorem dX1_setDegree_109 : decode cX1_setDegree 109 = .ok (.goto 183, 3) := by decide +kernel
theorem dX1_setDegree_112 : decode cX1_setDegree 112 = .ok (.aload_n 0, 1) := by decide +kernel
theorem dX1_setDegree_113 : decode cX1_setDegree 113 = .ok (.getfield 52, 3) := by decide +kernel
theorem dX1_setDegree_116 : decode cX1_setDegree 116 = .ok (.iconst 2, 1) := by decide +kernel
theorem dX1_setDegree_117 : decode cX1_setDegree 117 = .ok (.if_icmp .eq 20, 3) := by decide +kernel
theorem dX1_setDegree_120 : decode cX1_setDegree 120 = .ok (.aload_n 0, 1) := by decide +kernel
theorem dX1_setDegree_121 : decode cX1_setDegree 121 = .ok (.getfield 52, 3) := by decide +kernel
theorem dX1_setDegree_124 : decode cX1_setDegree 124 = .ok (.iconst 4, 1) := by decide +kernel
theorem dX1_setDegree_125 : decode cX1_setDegree 125 = .ok (.if_icmp .eq 12, 3) := by decide +kernel
theorem dX1_setDegree_128 : decode cX1_setDegree 128 = .ok (.aload_n 0, 1) := by decide +kernel
theorem dX1_setDegree_129 : decode cX1_setDegree 129 = .ok (.getfield 52, 3) := by decide +kernel
theorem dX1_setDegree_132 : decode cX1_setDegree 132 = .ok (.bipush 8, 2) := by decide +kernel
theorem dX1_setDegree_134 : decode cX1_setDegree 134 = .ok (.if_icmp .ne 13, 3) := by decide +kernel
theorem dX1_setDegree_137 : decode cX1_setDegree 137 = .ok (.aload_n 0, 1) := by decide +kernel
theorem dX1_setDegree_138 : decode cX1_setDegree 138 = .ok (.getfield 17, 3) := by decide +kernel
theorem dX1_setDegree_141 : decode cX1_setDegree 141 = .ok (.iconst 0, 1) := by decide +kernel
theorem dX1_setDegree_142 : decode cX1_setDegree 142 = .ok (.iconst 1, 1) := by decide +kernel
theorem dX1_setDegree_143 : decode cX1_setDegree 143 = .ok (.iastore, 1) := by decide +kernel
theorem dX1_setDegree_144 : decode cX1_setDegree 144 = .ok (.goto 148, 3) := by decide +kernel
theorem dX1_setDegree_147 : decode cX1_setDegree 147 = .ok (.aload_n 0, 1) := by decide +kernel
theorem dX1_setDegree_148 : decode cX1_setDegree 148 = .ok (.getfield 52, 3) := by decide +kernel
theorem dX1_setDegree_151 : decode cX1_setDegree 151 = .ok (.iconst 3, 1) := by decide +kernel
theorem dX1_setDegree_152 : decode cX1_setDegree 152 = .ok (.if_icmp .eq 29, 3) := by decide +kernel
theorem dX1_setDegree_155 : decode cX1_setDegree 155 = .ok (.aload_n 0, 1) := by decide +kernel
theorem dX1_setDegree_156 : decode cX1_setDegree 156 = .ok (.getfield 52, 3) := by decide +kernel
theorem dX1_setDegree_159 : decode cX1_setDegree 159 = .ok (.iconst 5, 1) := by decide +kernel
theorem dX1_setDegree_160 : decode cX1_setDegree 160 = .ok (.if_icmp .eq 21, 3) := by decide +kernel
theorem dX1_setDegree_163 : decode cX1_setDegree 163 = .ok (.aload_n 0, 1) := by decide +kernel
theorem dX1_setDegree_164 : decode cX1_setDegree 164 = .ok (.getfield 52, 3) := by decide +kernel
theorem dX1_setDegree_167 : decode cX1_setDegree 167 = .ok (.bipush 7, 2) := by decide +kernel
theorem dX1_setDegree_169 : decode cX1_setDegree 169 = .ok (.if_icmp .eq 12, 3) := by decide +kernel
theorem dX1_setDegree_172 : decode cX1_setDegree 172 = .ok (.aload_n 0, 1) := by decide +kernel
theorem dX1_setDegree_173 : decode cX1_setDegree 173 = .ok (.getfield 52, 3) := by decide +kernel
theorem dX1_setDegree_176 : decode cX1_setDegree 176 = .ok (.bipush 11, 2) := by decide +kernel
theorem dX1_setDegree_178 : decode cX1_setDegree 178 = .ok (.if_icmp .ne 29, 3) := by decide +kernel
theorem dX1_setDegree_181 : decode cX1_setDegree 181 = .ok (.iconst 0, 1) := by decide +kernel
theorem dX1_setDegree_182 : decode cX1_setDegree 182 = .ok (.istore_n 2, 1) := by decide +kernel
theorem dX1_setDegree_183 : decode cX1_setDegree 183 = .ok (.iload_n 2, 1) := by decide +kernel
theorem dX1_setDegree_184 : decode cX1_setDegree 184 = .ok (.aload_n 0, 1) := by decide +kernel
theorem dX1_setDegree_185 : decode cX1_setDegree 185 = .ok (.getfield 52, 3) := by decide +kernel
theorem dX1_setDegree_188 : decode cX1_setDegree 188 = .ok (.if_icmp .ge 16, 3) := by decide +kernel
theorem dX1_setDegree_191 : decode cX1_setDegree 191 = .ok (.aload_n 0, 1) := by decide +kernel
theorem dX1_setDegree_192 : decode cX1_setDegree 192 = .ok (.getfield 17, 3) := by decide +kernel
theorem dX1_setDegree_195 : decode cX1_setDegree 195 = .ok (.iload_n 2, 1) := by decide +kernel
theorem dX1_setDegree_196 : decode cX1_setDegree 196 = .ok (.iconst 1, 1) := by decide +kernel
theorem dX1_setDegree_197 : decode cX1_setDegree 197 = .ok (.iastore, 1) := by decide +kernel
theorem dX1_setDegree_198 : decode cX1_setDegree 198 = .ok (.iinc 2 1, 3) := by decide +kernel
theorem dX1_setDegree_201 : decode cX1_setDegree 201 = .ok (.goto (-18), 3) := by decide +kernel
theorem dX1_setDegree_204 : decode cX1_setDegree 204 = .ok (.goto 88, 3) := by decide +kernel
theorem dX1_setDegree_207 : decode cX1_setDegree 207 = .ok (.aload_n 0, 1) := by decide +kernel
theorem dX1_setDegree_208 : decode cX1_setDegree 208 = .ok (.getfield 52, 3) := by decide +kernel
theorem dX1_setDegree_211 : decode cX1_setDegree 211 = .ok (.bipush 9, 2) := by decide +kernel
theorem dX1_setDegree_213 : decode cX1_setDegree 213 = .ok (.if_icmp .ne 20, 3) := by decide +kernel
theorem dX1_setDegree_216 : decode cX1_setDegree 216 = .ok (.aload_n 0, 1) := by decide +kernel
theorem dX1_setDegree_217 : decode cX1_setDegree 217 = .ok (.getfield 17, 3) := by decide +kernel
theorem dX1_setDegree_220 : decode cX1_setDegree 220 = .ok (.iconst 0, 1) := by decide +kernel
theorem dX1_setDegree_221 : decode cX1_setDegree 221 = .ok (.iconst 1, 1) := by decide +kernel
theorem dX1_setDegree_222 : decode cX1_setDegree 222 = .ok (.iastore, 1) := by decide +kernel
theorem dX1_setDegree_223 : decode cX1_setDegree 223 = .ok (.aload_n 0, 1) := by decide +kernel
theorem dX1_setDegree_224 : decode cX1_setDegree 224 = .ok (.getfield 17, 3) := by decide +kernel
theorem dX1_setDegree_227 : decode cX1_setDegree 227 = .ok (.iconst 3, 1) := by decide +kernel
theorem dX1_setDegree_228 : decode cX1_setDegree 228 = .ok (.iconst 1, 1) := by decide +kernel
theorem dX1_setDegree_229 : decode cX1_setDegree 229 = .ok (.iastore, 1) := by decide +kernel
theorem dX1_setDegree_230 : decode cX1_setDegree 230 = .ok (.goto 62, 3) := by decide +kernel
theorem dX1_setDegree_233 : decode cX1_setDegree 233 = .ok (.aload_n 0, 1) := by decide +kernel
theorem dX1_setDegree_234 : decode cX1_setDegree 234 = .ok (.getfield 52, 3) := by decide +kernel
theorem dX1_setDegree_237 : decode cX1_setDegree 237 = .ok (.bipush 12, 2) := by decide +kernel
theorem dX1_setDegree_239 : decode cX1_setDegree 239 = .ok (.if_icmp .ne 20, 3) := by decide +kernel
theorem dX1_setDegree_242 : decode cX1_setDegree 242 = .ok (.aload_n 0, 1) := by decide +kernel
theorem dX1_setDegree_243 : decode cX1_setDegree 243 = .ok (.getfield 17, 3) := by decide +kernel
theorem dX1_setDegree_246 : decode cX1_setDegree 246 = .ok (.iconst 0, 1) := by decide +kernel
theorem dX1_setDegree_247 : decode cX1_setDegree 247 = .ok (.iconst 1, 1) := by decide +kernel
theorem dX1_setDegree_248 : decode cX1_setDegree 248 = .ok (.iastore, 1) := by decide +kernel
theorem dX1_setDegree_249 : decode cX1_setDegree 249 = .ok (.aload_n 0, 1) := by decide +kernel
theorem dX1_setDegree_250 : decode cX1_setDegree 250 = .ok (.getfield 17, 3) := by decide +kernel
theorem dX1_setDegree_253 : decode cX1_setDegree 253 = .ok (.iconst 2, 1) := by decide +kernel
theorem dX1_setDegree_254 : decode cX1_setDegree 254 = .ok (.iconst (-1), 1) := by decide +kernel
theorem dX1_setDegree_255 : decode cX1_setDegree 255 = .ok (.iastore, 1) := by decide +kernel
theorem dX1_setDegree_256 : decode cX1_setDegree 256 = .ok (.goto 36, 3) := by decide +kernel
theorem dX1_setDegree_259 : decode cX1_setDegree 259 = .ok (.iconst 0, 1) := by decide +kernel
theorem dX1_setDegree_260 : decode cX1_setDegree 260 = .ok (.istore_n 2, 1) := by decide +kernel
theorem dX1_setDegree_261 : decode cX1_setDegree 261 = .ok (.iload_n 2, 1) := by decide +kernel
theorem dX1_setDegree_262 : decode cX1_setDegree 262 = .ok (.aload_n 0, 1) := by decide +kernel
theorem dX1_setDegree_263 : decode cX1_setDegree 263 = .ok (.getfield 55, 3) := by decide +kernel
theorem dX1_setDegree_266 : decode cX1_setDegree 266 = .ok (.if_icmp .gt 26, 3) := by decide +kernel
theorem dX1_setDegree_269 : decode cX1_setDegree 269 = .ok (.aload_n 0, 1) := by decide +kernel
theorem dX1_setDegree_270 : decode cX1_setDegree 270 = .ok (.getfield 17, 3) := by decide +kernel
theorem dX1_setDegree_273 : decode cX1_setDegree 273 = .ok (.iload_n 2, 1) := by decide +kernel
theorem dX1_setDegree_274 : decode cX1_setDegree 274 = .ok (.iload_n 2, 1) := by decide +kernel
theorem dX1_setDegree_275 : decode cX1_setDegree 275 = .ok (.iconst 2, 1) := by decide +kernel
theorem dX1_setDegree_276 : decode cX1_setDegree 276 = .ok (.irem, 1) := by decide +kernel
theorem dX1_setDegree_277 : decode cX1_setDegree 277 = .ok (.ifCond .ne 7, 3) := by decide +kernel
theorem dX1_setDegree_280 : decode cX1_setDegree 280 = .ok (.iconst 1, 1) := by decide +kernel
theorem dX1_setDegree_281 : decode cX1_setDegree 281 = .ok (.goto 4, 3) := by decide +kernel
theorem dX1_setDegree_284 : decode cX1_setDegree 284 = .ok (.iconst (-1), 1) := by decide +kernel
theorem dX1_setDegree_285 : decode cX1_setDegree 285 = .ok (.iastore, 1) := by decide +kernel
theorem dX1_setDegree_286 : decode cX1_setDegree 286 = .ok (.iinc 2 1, 3) := by decide +kernel
theorem dX1_setDegree_289 : decode cX1_setDegree 289 = .ok (.goto (-28), 3) := by decide +kernel
theorem dX1_setDegree_292 : decode cX1_setDegree 292 = .ok (.aload_n 0, 1) := by decide +kernel
theorem dX1_setDegree_293 : decode cX1_setDegree 293 = .ok (.getfield 17, 3) := by decide +kernel
theorem dX1_setDegree_296 : decode cX1_setDegree 296 = .ok (.aload_n 0, 1) := by decide +kernel
theorem dX1_setDegree_297 : decode cX1_setDegree 297 = .ok (.getfield 55, 3) := by decide +kernel
theorem dX1_setDegree_300 : decode cX1_setDegree 300 = .ok (.iconst 1, 1) := by decide +kernel
theorem dX1_setDegree_301 : decode cX1_setDegree 301 = .ok (.iastore, 1) := by decide +kernel
theorem dX1_setDegree_302 : decode cX1_setDegree 302 = .ok (.return_, 1) := by decide +kernel
set_option maxRecDepth 20000 in
theorem ggX1_prime_X1_isPrime : GoodIn wsX1_prime wsX1_isPrime := goodIn_r _ [5] (by decide +kernel) (by decide +kernel)
set_option maxRecDepth 20000 in
theorem gX1_prime_X1_isPrime : GoodIn wsX1_prime (va_wsS RX1 62 yX1_isPrime wsX1_isPrime) := goodIn_app (goodIn_of _ (by decide +kernel)) ggX1_prime_X1_isPrime
set_option maxRecDepth 20000 in
theorem ggX1_prime_X1_begin : GoodIn wsX1_prime wsX1_begin := goodIn_r _ [9, 10, 1, 11, 12, 13, 14, 4, 15, 16, 17, 18, 19, 20, 21, 22, 23, 24, 25, 26, 27, 28, 29, 30, 31, 32, 33] (by decide +kernel) (by decide +kernel)
set_option maxRecDepth 20000 in
theorem gX1_prime_X1_begin : GoodIn wsX1_prime (wsV RX1 32 RX1 yX1_begin wsX1_begin) := goodIn_app (goodIn_of _ (by decide +kernel)) ggX1_prime_X1_begin
theorem dX1_prime_0 : decode cX1_prime 0 = .ok (.iload_n 1, 1) := by decide +kernel
theorem dX1_prime_1 : decode cX1_prime 1 = .ok (.invokestatic 62, 3) := by decide +kernel
theorem dX1_prime_4 : decode cX1_prime 4 = .ok (.ifCond .ne 6, 3) := by decide +kernel
theorem dX1_prime_7 : decode cX1_prime 7 = .ok (.bipush (-3), 2) := by decide +kernel
theorem dX1_prime_9 : decode cX1_prime 9 = .ok (.ireturn, 1) := by decide +kernel
theorem dX1_prime_10 : decode cX1_prime 10 = .ok (.aload_n 0, 1) := by decide +kernel
theorem dX1_prime_11 : decode cX1_prime 11 = .ok (.iload_n 1, 1) := by decide +kernel
theorem dX1_prime_12 : decode cX1_prime 12 = .ok (.invokevirtual 32, 3) := by decide +kernel
theorem dX1_prime_15 : decode cX1_prime 15 = .ok (.aload_n 0, 1) := by decide +kernel
theorem dX1_prime_16 : decode cX1_prime 16 = .ok (.getfield 46, 3) := by decide +kernel
theorem dX1_prime_19 : decode cX1_prime 19 = .ok (.ireturn, 1) := by decide +kernel
set_option maxRecDepth 20000 in
theorem ggX1_degree_X1_in : GoodIn wsX1_degree wsX1_in := goodIn_r _ [7] (by decide +kernel) (by decide +kernel)
set_option maxRecDepth 20000 in
theorem gX1_degree_X1_in : GoodIn wsX1_degree (va_wsS RX1 38 yX1_in wsX1_in) := goodIn_app (goodIn_of _ (by decide +kernel)) ggX1_degree_X1_in
set_option maxRecDepth 20000 in
theorem ggX1_degree_X1_setDegree : GoodIn wsX1_degree wsX1_setDegree := goodIn_r _ [11, 12, 3, 13, 14, 15, 16, 6, 17, 18, 19, 20, 21, 22, 23, 24, 25, 26, 27, 28] (by decide +kernel) (by decide +kernel)
set_option maxRecDepth 20000 in
theorem gX1_degree_X1_setDegree : GoodIn wsX1_degree (wsV RX1 49 RX1 yX1_setDegree wsX1_setDegree) := goodIn_app (goodIn_of _ (by decide +kernel)) ggX1_degree_X1_setDegree
theorem dX1_degree_0 : decode cX1_degree 0 = .ok (.iload_n 1, 1) := by decide +kernel
theorem dX1_degree_1 : decode cX1_degree 1 = .ok (.i2l, 1) := by decide +kernel
theorem dX1_degree_2 : decode cX1_degree 2 = .ok (.lconst 1, 1) := by decide +kernel
theorem dX1_degree_3 : decode cX1_degree 3 = .ok (.ldc2_w 66, 3) := by decide +kernel
theorem dX1_degree_6 : decode cX1_degree 6 = .ok (.invokestatic 38, 3) := by decide +kernel
theorem dX1_degree_9 : decode cX1_degree 9 = .ok (.ifCond .eq 14, 3) := by decide +kernel
theorem dX1_degree_12 : decode cX1_degree 12 = .ok (.aload_n 0, 1) := by decide +kernel
theorem dX1_degree_13 : decode cX1_degree 13 = .ok (.getfield 42, 3) := by decide +kernel
theorem dX1_degree_16 : decode cX1_degree 16 = .ok (.iconst 1, 1) := by decide +kernel
theorem dX1_degree_17 : decode cX1_degree 17 = .ok (.isub, 1) := by decide +kernel
theorem dX1_degree_18 : decode cX1_degree 18 = .ok (.iload_n 1, 1) := by decide +kernel
theorem dX1_degree_19 : decode cX1_degree 19 = .ok (.irem, 1) := by decide +kernel
theorem dX1_degree_20 : decode cX1_degree 20 = .ok (.ifCond .eq 6, 3) := by decide +kernel
theorem dX1_degree_23 : decode cX1_degree 23 = .ok (.bipush (-3), 2) := by decide +kernel
theorem dX1_degree_25 : decode cX1_degree 25 = .ok (.ireturn, 1) := by decide +kernel
theorem dX1_degree_26 : decode cX1_degree 26 = .ok (.aload_n 0, 1) := by decide +kernel
theorem dX1_degree_27 : decode cX1_degree 27 = .ok (.iload_n 1, 1) := by decide +kernel
theorem dX1_degree_28 : decode cX1_degree 28 = .ok (.invokevirtual 49, 3) := by decide +kernel
theorem dX1_degree_31 : decode cX1_degree 31 = .ok (.aload_n 0, 1) := by decide +kernel
theorem dX1_degree_32 : decode cX1_degree 32 = .ok (.getfield 55, 3) := by decide +kernel
theorem dX1_degree_35 : decode cX1_degree 35 = .ok (.ireturn, 1) := by decide +kernel
set_option maxRecDepth 20000 in
theorem ggX1_rest_X1_in : GoodIn wsX1_rest wsX1_in := goodIn_r _ [7] (by decide +kernel) (by decide +kernel)
set_option maxRecDepth 20000 in
theorem gX1_rest_X1_in : GoodIn wsX1_rest (va_wsS RX1 38 yX1_in wsX1_in) := goodIn_app (goodIn_of _ (by decide +kernel)) ggX1_rest_X1_in
set_option maxRecDepth 20000 in
theorem ggX1_rest_X1_rem : GoodIn wsX1_rest wsX1_rem := goodIn_r _ [10] (by decide +kernel) (by decide +kernel)
set_option maxRecDepth 20000 in
theorem gX1_rest_X1_rem : GoodIn wsX1_rest (va_wsS RX1 68 yX1_rem wsX1_rem) := goodIn_app (goodIn_of _ (by decide +kernel)) ggX1_rest_X1_rem
theorem dX1_rest_0 : decode cX1_rest 0 = .ok (.iload_n 2, 1) := by decide +kernel
theorem dX1_rest_1 : decode cX1_rest 1 = .ok (.i2l, 1) := by decide +kernel
theorem dX1_rest_2 : decode cX1_rest 2 = .ok (.lconst 0, 1) := by decide +kernel
theorem dX1_rest_3 : decode cX1_rest 3 = .ok (.lconst 1, 1) := by decide +kernel
theorem dX1_rest_4 : decode cX1_rest 4 = .ok (.invokestatic 38, 3) := by decide +kernel
theorem dX1_rest_7 : decode cX1_rest 7 = .ok (.ifCond .ne 6, 3) := by decide +kernel
theorem dX1_rest_10 : decode cX1_rest 10 = .ok (.bipush (-3), 2) := by decide +kernel
theorem dX1_rest_12 : decode cX1_rest 12 = .ok (.ireturn, 1) := by decide +kernel
theorem dX1_rest_13 : decode cX1_rest 13 = .ok (.iload_n 1, 1) := by decide +kernel
theorem dX1_rest_14 : decode cX1_rest 14 = .ok (.i2l, 1) := by decide +kernel
theorem dX1_rest_15 : decode cX1_rest 15 = .ok (.aload_n 0, 1) := by decide +kernel
theorem dX1_rest_16 : decode cX1_rest 16 = .ok (.getfield 42, 3) := by decide +kernel
theorem dX1_rest_19 : decode cX1_rest 19 = .ok (.invokestatic 68, 3) := by decide +kernel
theorem dX1_rest_22 : decode cX1_rest 22 = .ok (.istore_n 3, 1) := by decide +kernel
theorem dX1_rest_23 : decode cX1_rest 23 = .ok (.iload_n 3, 1) := by decide +kernel
theorem dX1_rest_24 : decode cX1_rest 24 = .ok (.ifCond .ne 7, 3) := by decide +kernel
theorem dX1_rest_27 : decode cX1_rest 27 = .ok (.iconst (-1), 1) := by decide +kernel
theorem dX1_rest_28 : decode cX1_rest 28 = .ok (.goto 27, 3) := by decide +kernel
theorem dX1_rest_31 : decode cX1_rest 31 = .ok (.iload_n 2, 1) := by decide +kernel
theorem dX1_rest_32 : decode cX1_rest 32 = .ok (.ifCond .ne 12, 3) := by decide +kernel
theorem dX1_rest_35 : decode cX1_rest 35 = .ok (.aload_n 0, 1) := by decide +kernel
theorem dX1_rest_36 : decode cX1_rest 36 = .ok (.getfield 7, 3) := by decide +kernel
theorem dX1_rest_39 : decode cX1_rest 39 = .ok (.iload_n 3, 1) := by decide +kernel
theorem dX1_rest_40 : decode cX1_rest 40 = .ok (.iaload, 1) := by decide +kernel
theorem dX1_rest_41 : decode cX1_rest 41 = .ok (.goto 14, 3) := by decide +kernel
theorem dX1_rest_44 : decode cX1_rest 44 = .ok (.aload_n 0, 1) := by decide +kernel
theorem dX1_rest_45 : decode cX1_rest 45 = .ok (.getfield 7, 3) := by decide +kernel
theorem dX1_rest_48 : decode cX1_rest 48 = .ok (.iload_n 3, 1) := by decide +kernel
theorem dX1_rest_49 : decode cX1_rest 49 = .ok (.iaload, 1) := by decide +kernel
theorem dX1_rest_50 : decode cX1_rest 50 = .ok (.aload_n 0, 1) := by decide +kernel
theorem dX1_rest_51 : decode cX1_rest 51 = .ok (.getfield 52, 3) := by decide +kernel
theorem dX1_rest_54 : decode cX1_rest 54 = .ok (.irem, 1) := by decide +kernel
theorem dX1_rest_55 : decode cX1_rest 55 = .ok (.ireturn, 1) := by decide +kernel
theorem dX1_classOf_0 : decode cX1_classOf 0 = .ok (.aload_n 0, 1) := by decide +kernel
theorem dX1_classOf_1 : decode cX1_classOf 1 = .ok (.getfield 7, 3) := by decide +kernel
theorem dX1_classOf_4 : decode cX1_classOf 4 = .ok (.iload_n 1, 1) := by decide +kernel
theorem dX1_classOf_5 : decode cX1_classOf 5 = .ok (.iaload, 1) := by decide +kernel
theorem dX1_classOf_6 : decode cX1_classOf 6 = .ok (.aload_n 0, 1) := by decide +kernel
theorem dX1_classOf_7 : decode cX1_classOf 7 = .ok (.getfield 52, 3) := by decide +kernel
theorem dX1_classOf_10 : decode cX1_classOf 10 = .ok (.irem, 1) := by decide +kernel
theorem dX1_classOf_11 : decode cX1_classOf 11 = .ok (.ireturn, 1) := by decide +kernel
set_option maxRecDepth 20000 in
theorem ggX1_meeting_X1_in : GoodIn wsX1_meeting wsX1_in := goodIn_r _ [6] (by decide +kernel) (by decide +kernel)
set_option maxRecDepth 20000 in
theorem gX1_meeting_X1_in : GoodIn wsX1_meeting (va_wsS RX1 38 yX1_in wsX1_in) := goodIn_app (goodIn_of _ (by decide +kernel)) ggX1_meeting_X1_in
set_option maxRecDepth 20000 in
theorem ggX1_meeting_X1_classOf : GoodIn wsX1_meeting wsX1_classOf := goodIn_r _ [10, 11, 1, 12, 13, 14, 15, 16, 17, 18, 19, 20, 21, 22] (by decide +kernel) (by decide +kernel)
set_option maxRecDepth 20000 in
theorem gX1_meeting_X1_classOf : GoodIn wsX1_meeting (wsV RX1 72 RX1 yX1_classOf wsX1_classOf) := goodIn_app (goodIn_of _ (by decide +kernel)) ggX1_meeting_X1_classOf
theorem dX1_meeting_0 : decode cX1_meeting 0 = .ok (.iload_n 1, 1) := by decide +kernel
theorem dX1_meeting_1 : decode cX1_meeting 1 = .ok (.i2l, 1) := by decide +kernel
theorem dX1_meeting_2 : decode cX1_meeting 2 = .ok (.lconst 0, 1) := by decide +kernel
theorem dX1_meeting_3 : decode cX1_meeting 3 = .ok (.aload_n 0, 1) := by decide +kernel
theorem dX1_meeting_4 : decode cX1_meeting 4 = .ok (.getfield 52, 3) := by decide +kernel
theorem dX1_meeting_7 : decode cX1_meeting 7 = .ok (.iconst 1, 1) := by decide +kernel
theorem dX1_meeting_8 : decode cX1_meeting 8 = .ok (.isub, 1) := by decide +kernel
theorem dX1_meeting_9 : decode cX1_meeting 9 = .ok (.i2l, 1) := by decide +kernel
theorem dX1_meeting_10 : decode cX1_meeting 10 = .ok (.invokestatic 38, 3) := by decide +kernel
theorem dX1_meeting_13 : decode cX1_meeting 13 = .ok (.ifCond .eq 19, 3) := by decide +kernel
theorem dX1_meeting_16 : decode cX1_meeting 16 = .ok (.iload_n 2, 1) := by decide +kernel
theorem dX1_meeting_17 : decode cX1_meeting 17 = .ok (.i2l, 1) := by decide +kernel
theorem dX1_meeting_18 : decode cX1_meeting 18 = .ok (.lconst 0, 1) := by decide +kernel
theorem dX1_meeting_19 : decode cX1_meeting 19 = .ok (.aload_n 0, 1) := by decide +kernel
theorem dX1_meeting_20 : decode cX1_meeting 20 = .ok (.getfield 52, 3) := by decide +kernel
theorem dX1_meeting_23 : decode cX1_meeting 23 = .ok (.iconst 1, 1) := by decide +kernel
theorem dX1_meeting_24 : decode cX1_meeting 24 = .ok (.isub, 1) := by decide +kernel
theorem dX1_meeting_25 : decode cX1_meeting 25 = .ok (.i2l, 1) := by decide +kernel
theorem dX1_meeting_26 : decode cX1_meeting 26 = .ok (.invokestatic 38, 3) := by decide +kernel
theorem dX1_meeting_29 : decode cX1_meeting 29 = .ok (.ifCond .ne 6, 3) := by decide +kernel
theorem dX1_meeting_32 : decode cX1_meeting 32 = .ok (.bipush (-2), 2) := by decide +kernel
theorem dX1_meeting_34 : decode cX1_meeting 34 = .ok (.ireturn, 1) := by decide +kernel
theorem dX1_meeting_35 : decode cX1_meeting 35 = .ok (.iconst 0, 1) := by decide +kernel
theorem dX1_meeting_36 : decode cX1_meeting 36 = .ok (.istore_n 3, 1) := by decide +kernel
theorem dX1_meeting_37 : decode cX1_meeting 37 = .ok (.iconst 1, 1) := by decide +kernel
theorem dX1_meeting_38 : decode cX1_meeting 38 = .ok (.istore 4, 2) := by decide +kernel
theorem dX1_meeting_40 : decode cX1_meeting 40 = .ok (.iload 4, 2) := by decide +kernel
theorem dX1_meeting_42 : decode cX1_meeting 42 = .ok (.aload_n 0, 1) := by decide +kernel
theorem dX1_meeting_43 : decode cX1_meeting 43 = .ok (.getfield 42, 3) := by decide +kernel
theorem dX1_meeting_46 : decode cX1_meeting 46 = .ok (.iconst 1, 1) := by decide +kernel
theorem dX1_meeting_47 : decode cX1_meeting 47 = .ok (.isub, 1) := by decide +kernel
theorem dX1_meeting_48 : decode cX1_meeting 48 = .ok (.if_icmp .ge 39, 3) := by decide +kernel
theorem dX1_meeting_51 : decode cX1_meeting 51 = .ok (.iload_n 3, 1) := by decide +kernel
theorem dX1_meeting_52 : decode cX1_meeting 52 = .ok (.aload_n 0, 1) := by decide +kernel
theorem dX1_meeting_53 : decode cX1_meeting 53 = .ok (.iload 4, 2) := by decide +kernel
theorem dX1_meeting_55 : decode cX1_meeting 55 = .ok (.invokevirtual 72, 3) := by decide +kernel
theorem dX1_meeting_58 : decode cX1_meeting 58 = .ok (.iload_n 1, 1) := by decide +kernel
theorem dX1_meeting_59 : decode cX1_meeting 59 = .ok (.if_icmp .ne 19, 3) := by decide +kernel
theorem dX1_meeting_62 : decode cX1_meeting 62 = .ok (.aload_n 0, 1) := by decide +kernel
theorem dX1_meeting_63 : decode cX1_meeting 63 = .ok (.iload 4, 2) := by decide +kernel
theorem dX1_meeting_65 : decode cX1_meeting 65 = .ok (.iconst 1, 1) := by decide +kernel
theorem dX1_meeting_66 : decode cX1_meeting 66 = .ok (.iadd, 1) := by decide +kernel
theorem dX1_meeting_67 : decode cX1_meeting 67 = .ok (.invokevirtual 72, 3) := by decide +kernel
theorem dX1_meeting_70 : decode cX1_meeting 70 = .ok (.iload_n 2, 1) := by decide +kernel
theorem dX1_meeting_71 : decode cX1_meeting 71 = .ok (.if_icmp .ne 7, 3) := by decide +kernel
theorem dX1_meeting_74 : decode cX1_meeting 74 = .ok (.iconst 1, 1) := by decide +kernel
theorem dX1_meeting_75 : decode cX1_meeting 75 = .ok (.goto 4, 3) := by decide +kernel
theorem dX1_meeting_78 : decode cX1_meeting 78 = .ok (.iconst 0, 1) := by decide +kernel
theorem dX1_meeting_79 : decode cX1_meeting 79 = .ok (.iadd, 1) := by decide +kernel
theorem dX1_meeting_80 : decode cX1_meeting 80 = .ok (.istore_n 3, 1) := by decide +kernel
theorem dX1_meeting_81 : decode cX1_meeting 81 = .ok (.iinc 4 1, 3) := by decide +kernel
theorem dX1_meeting_84 : decode cX1_meeting 84 = .ok (.goto (-44), 3) := by decide +kernel
theorem dX1_meeting_87 : decode cX1_meeting 87 = .ok (.iload_n 3, 1) := by decide +kernel
theorem dX1_meeting_88 : decode cX1_meeting 88 = .ok (.ireturn, 1) := by decide +kernel
theorem dX1_empty_0 : decode cX1_empty 0 = .ok (.iconst 0, 1) := by decide +kernel
theorem dX1_empty_1 : decode cX1_empty 1 = .ok (.istore_n 1, 1) := by decide +kernel
theorem dX1_empty_2 : decode cX1_empty 2 = .ok (.iload_n 1, 1) := by decide +kernel
theorem dX1_empty_3 : decode cX1_empty 3 = .ok (.bipush 24, 2) := by decide +kernel
theorem dX1_empty_5 : decode cX1_empty 5 = .ok (.if_icmp .ge 16, 3) := by decide +kernel
theorem dX1_empty_8 : decode cX1_empty 8 = .ok (.aload_n 0, 1) := by decide +kernel
theorem dX1_empty_9 : decode cX1_empty 9 = .ok (.getfield 20, 3) := by decide +kernel
theorem dX1_empty_12 : decode cX1_empty 12 = .ok (.iload_n 1, 1) := by decide +kernel
theorem dX1_empty_13 : decode cX1_empty 13 = .ok (.lconst 0, 1) := by decide +kernel
theorem dX1_empty_14 : decode cX1_empty 14 = .ok (.lastore, 1) := by decide +kernel
theorem dX1_empty_15 : decode cX1_empty 15 = .ok (.iinc 1 1, 3) := by decide +kernel
theorem dX1_empty_18 : decode cX1_empty 18 = .ok (.goto (-16), 3) := by decide +kernel
theorem dX1_empty_21 : decode cX1_empty 21 = .ok (.return_, 1) := by decide +kernel
theorem dX1_reduce_0 : decode cX1_reduce 0 = .ok (.bipush 23, 2) := by decide +kernel
theorem dX1_reduce_2 : decode cX1_reduce 2 = .ok (.istore_n 1, 1) := by decide +kernel
theorem dX1_reduce_3 : decode cX1_reduce 3 = .ok (.iload_n 1, 1) := by decide +kernel
theorem dX1_reduce_4 : decode cX1_reduce 4 = .ok (.aload_n 0, 1) := by decide +kernel
theorem dX1_reduce_5 : decode cX1_reduce 5 = .ok (.getfield 55, 3) := by decide +kernel
theorem dX1_reduce_8 : decode cX1_reduce 8 = .ok (.if_icmp .lt 67, 3) := by decide +kernel
theorem dX1_reduce_11 : decode cX1_reduce 11 = .ok (.aload_n 0, 1) := by decide +kernel
theorem dX1_reduce_12 : decode cX1_reduce 12 = .ok (.getfield 20, 3) := by decide +kernel
theorem dX1_reduce_15 : decode cX1_reduce 15 = .ok (.iload_n 1, 1) := by decide +kernel
theorem dX1_reduce_16 : decode cX1_reduce 16 = .ok (.laload, 1) := by decide +kernel
theorem dX1_reduce_17 : decode cX1_reduce 17 = .ok (.lstore_n 2, 1) := by decide +kernel
theorem dX1_reduce_18 : decode cX1_reduce 18 = .ok (.iconst 0, 1) := by decide +kernel
theorem dX1_reduce_19 : decode cX1_reduce 19 = .ok (.istore 4, 2) := by decide +kernel
theorem dX1_reduce_21 : decode cX1_reduce 21 = .ok (.iload 4, 2) := by decide +kernel
theorem dX1_reduce_23 : decode cX1_reduce 23 = .ok (.aload_n 0, 1) := by decide +kernel
theorem dX1_reduce_24 : decode cX1_reduce 24 = .ok (.getfield 55, 3) := by decide +kernel
theorem dX1_reduce_27 : decode cX1_reduce 27 = .ok (.if_icmp .gt 42, 3) := by decide +kernel
theorem dX1_reduce_30 : decode cX1_reduce 30 = .ok (.lload_n 2, 1) := by decide +kernel
theorem dX1_reduce_31 : decode cX1_reduce 31 = .ok (.lconst 0, 1) := by decide +kernel
theorem dX1_reduce_32 : decode cX1_reduce 32 = .ok (.lcmp, 1) := by decide +kernel
theorem dX1_reduce_33 : decode cX1_reduce 33 = .ok (.ifCond .eq 36, 3) := by decide +kernel
theorem dX1_reduce_36 : decode cX1_reduce 36 = .ok (.aload_n 0, 1) := by decide +kernel
theorem dX1_reduce_37 : decode cX1_reduce 37 = .ok (.getfield 20, 3) := by decide +kernel
theorem dX1_reduce_40 : decode cX1_reduce 40 = .ok (.iload_n 1, 1) := by decide +kernel
theorem dX1_reduce_41 : decode cX1_reduce 41 = .ok (.aload_n 0, 1) := by decide +kernel
theorem dX1_reduce_42 : decode cX1_reduce 42 = .ok (.getfield 55, 3) := by decide +kernel
theorem dX1_reduce_45 : decode cX1_reduce 45 = .ok (.isub, 1) := by decide +kernel
theorem dX1_reduce_46 : decode cX1_reduce 46 = .ok (.iload 4, 2) := by decide +kernel
theorem dX1_reduce_48 : decode cX1_reduce 48 = .ok (.iadd, 1) := by decide +kernel
theorem dX1_reduce_49 : decode cX1_reduce 49 = .ok (.dup2, 1) := by decide +kernel
theorem dX1_reduce_50 : decode cX1_reduce 50 = .ok (.laload, 1) := by decide +kernel
theorem dX1_reduce_51 : decode cX1_reduce 51 = .ok (.lload_n 2, 1) := by decide +kernel
theorem dX1_reduce_52 : decode cX1_reduce 52 = .ok (.aload_n 0, 1) := by decide +kernel
theorem dX1_reduce_53 : decode cX1_reduce 53 = .ok (.getfield 17, 3) := by decide +kernel
theorem dX1_reduce_56 : decode cX1_reduce 56 = .ok (.iload 4, 2) := by decide +kernel
theorem dX1_reduce_58 : decode cX1_reduce 58 = .ok (.iaload, 1) := by decide +kernel
theorem dX1_reduce_59 : decode cX1_reduce 59 = .ok (.i2l, 1) := by decide +kernel
theorem dX1_reduce_60 : decode cX1_reduce 60 = .ok (.lmul, 1) := by decide +kernel
theorem dX1_reduce_61 : decode cX1_reduce 61 = .ok (.lsub, 1) := by decide +kernel
theorem dX1_reduce_62 : decode cX1_reduce 62 = .ok (.lastore, 1) := by decide +kernel
theorem dX1_reduce_63 : decode cX1_reduce 63 = .ok (.iinc 4 1, 3) := by decide +kernel
theorem dX1_reduce_66 : decode cX1_reduce 66 = .ok (.goto (-45), 3) := by decide +kernel
theorem dX1_reduce_69 : decode cX1_reduce 69 = .ok (.iinc 1 (-1), 3) := by decide +kernel
theorem dX1_reduce_72 : decode cX1_reduce 72 = .ok (.goto (-69), 3) := by decide +kernel
theorem dX1_reduce_75 : decode cX1_reduce 75 = .ok (.return_, 1) := by decide +kernel
set_option maxRecDepth 20000 in
theorem ggX1_lay_X1_in : GoodIn wsX1_lay wsX1_in := goodIn_r _ [9] (by decide +kernel) (by decide +kernel)
set_option maxRecDepth 20000 in
theorem gX1_lay_X1_in : GoodIn wsX1_lay (va_wsS RX1 38 yX1_in wsX1_in) := goodIn_app (goodIn_of _ (by decide +kernel)) ggX1_lay_X1_in
theorem dX1_lay_0 : decode cX1_lay 0 = .ok (.iconst 0, 1) := by decide +kernel
theorem dX1_lay_1 : decode cX1_lay 1 = .ok (.istore_n 2, 1) := by decide +kernel
theorem dX1_lay_2 : decode cX1_lay 2 = .ok (.iload_n 2, 1) := by decide +kernel
theorem dX1_lay_3 : decode cX1_lay 3 = .ok (.aload_n 0, 1) := by decide +kernel
theorem dX1_lay_4 : decode cX1_lay 4 = .ok (.getfield 55, 3) := by decide +kernel
theorem dX1_lay_7 : decode cX1_lay 7 = .ok (.if_icmp .ge 30, 3) := by decide +kernel
theorem dX1_lay_10 : decode cX1_lay 10 = .ok (.aload_n 0, 1) := by decide +kernel
theorem dX1_lay_11 : decode cX1_lay 11 = .ok (.getfield 20, 3) := by decide +kernel
theorem dX1_lay_14 : decode cX1_lay 14 = .ok (.iload_n 2, 1) := by decide +kernel
theorem dX1_lay_15 : decode cX1_lay 15 = .ok (.laload, 1) := by decide +kernel
theorem dX1_lay_16 : decode cX1_lay 16 = .ok (.ldc2_w 76, 3) := by decide +kernel
theorem dX1_lay_19 : decode cX1_lay 19 = .ok (.ldc2_w 78, 3) := by decide +kernel
theorem dX1_lay_22 : decode cX1_lay 22 = .ok (.invokestatic 38, 3) := by decide +kernel
theorem dX1_lay_25 : decode cX1_lay 25 = .ok (.ifCond .ne 6, 3) := by decide +kernel
theorem dX1_lay_28 : decode cX1_lay 28 = .ok (.bipush (-5), 2) := by decide +kernel
theorem dX1_lay_30 : decode cX1_lay 30 = .ok (.ireturn, 1) := by decide +kernel
theorem dX1_lay_31 : decode cX1_lay 31 = .ok (.iinc 2 1, 3) := by decide +kernel
theorem dX1_lay_34 : decode cX1_lay 34 = .ok (.goto (-32), 3) := by decide +kernel
theorem dX1_lay_37 : decode cX1_lay 37 = .ok (.iconst 0, 1) := by decide +kernel
theorem dX1_lay_38 : decode cX1_lay 38 = .ok (.istore_n 2, 1) := by decide +kernel
theorem dX1_lay_39 : decode cX1_lay 39 = .ok (.iload_n 2, 1) := by decide +kernel
theorem dX1_lay_40 : decode cX1_lay 40 = .ok (.bipush 12, 2) := by decide +kernel
theorem dX1_lay_42 : decode cX1_lay 42 = .ok (.if_icmp .ge 38, 3) := by decide +kernel
theorem dX1_lay_45 : decode cX1_lay 45 = .ok (.aload_n 0, 1) := by decide +kernel
theorem dX1_lay_46 : decode cX1_lay 46 = .ok (.getfield 13, 3) := by decide +kernel
theorem dX1_lay_49 : decode cX1_lay 49 = .ok (.bipush 12, 2) := by decide +kernel
theorem dX1_lay_51 : decode cX1_lay 51 = .ok (.iload_n 1, 1) := by decide +kernel
theorem dX1_lay_52 : decode cX1_lay 52 = .ok (.imul, 1) := by decide +kernel
theorem dX1_lay_53 : decode cX1_lay 53 = .ok (.iload_n 2, 1) := by decide +kernel
theorem dX1_lay_54 : decode cX1_lay 54 = .ok (.iadd, 1) := by decide +kernel
theorem dX1_lay_55 : decode cX1_lay 55 = .ok (.iload_n 2, 1) := by decide +kernel
theorem dX1_lay_56 : decode cX1_lay 56 = .ok (.aload_n 0, 1) := by decide +kernel
theorem dX1_lay_57 : decode cX1_lay 57 = .ok (.getfield 55, 3) := by decide +kernel
theorem dX1_lay_60 : decode cX1_lay 60 = .ok (.if_icmp .ge 12, 3) := by decide +kernel
theorem dX1_lay_63 : decode cX1_lay 63 = .ok (.aload_n 0, 1) := by decide +kernel
theorem dX1_lay_64 : decode cX1_lay 64 = .ok (.getfield 20, 3) := by decide +kernel
theorem dX1_lay_67 : decode cX1_lay 67 = .ok (.iload_n 2, 1) := by decide +kernel
theorem dX1_lay_68 : decode cX1_lay 68 = .ok (.laload, 1) := by decide +kernel
theorem dX1_lay_69 : decode cX1_lay 69 = .ok (.goto 4, 3) := by decide +kernel
theorem dX1_lay_72 : decode cX1_lay 72 = .ok (.lconst 0, 1) := by decide +kernel
theorem dX1_lay_73 : decode cX1_lay 73 = .ok (.lastore, 1) := by decide +kernel
theorem dX1_lay_74 : decode cX1_lay 74 = .ok (.iinc 2 1, 3) := by decide +kernel
theorem dX1_lay_77 : decode cX1_lay 77 = .ok (.goto (-38), 3) := by decide +kernel
theorem dX1_lay_80 : decode cX1_lay 80 = .ok (.iconst 1, 1) := by decide +kernel
theorem dX1_lay_81 : decode cX1_lay 81 = .ok (.ireturn, 1) := by decide +kernel
set_option maxRecDepth 20000 in
theorem ggX1_sum_X1_isHold : GoodIn wsX1_sum wsX1_isHold := goodIn_r _ [7, 8, 9, 10, 6, 11] (by decide +kernel) (by decide +kernel)
set_option maxRecDepth 20000 in
theorem gX1_sum_X1_isHold : GoodIn wsX1_sum (va_wsS RX1 80 yX1_isHold wsX1_isHold) := goodIn_app (goodIn_of _ (by decide +kernel)) ggX1_sum_X1_isHold
set_option maxRecDepth 20000 in
theorem ggX1_sum_X1_empty : GoodIn wsX1_sum wsX1_empty := goodIn_r _ [15, 2, 37, 38, 39, 40, 41, 42, 43, 44, 45, 46, 47] (by decide +kernel) (by decide +kernel)
set_option maxRecDepth 20000 in
theorem gX1_sum_X1_empty : GoodIn wsX1_sum (wsV RX1 83 RX1 yX1_empty wsX1_empty) := goodIn_app (goodIn_of _ (by decide +kernel)) ggX1_sum_X1_empty
set_option maxRecDepth 20000 in
theorem ggX1_sum_X1_classOf : GoodIn wsX1_sum wsX1_classOf := goodIn_r _ [19, 20, 3, 37, 38, 39, 40, 41, 42, 43, 44, 45, 46, 47] (by decide +kernel) (by decide +kernel)
set_option maxRecDepth 20000 in
theorem gX1_sum_X1_classOf : GoodIn wsX1_sum (wsV RX1 72 RX1 yX1_classOf wsX1_classOf) := goodIn_app (goodIn_of _ (by decide +kernel)) ggX1_sum_X1_classOf
set_option maxRecDepth 20000 in
theorem ggX1_sum_X1_rem : GoodIn wsX1_sum wsX1_rem := goodIn_r _ [23] (by decide +kernel) (by decide +kernel)
set_option maxRecDepth 20000 in
theorem gX1_sum_X1_rem : GoodIn wsX1_sum (va_wsS RX1 68 yX1_rem wsX1_rem) := goodIn_app (goodIn_of _ (by decide +kernel)) ggX1_sum_X1_rem
set_option maxRecDepth 20000 in
theorem ggX1_sum_X1_reduce : GoodIn wsX1_sum wsX1_reduce := goodIn_r _ [27, 28, 2, 29, 37, 38, 39, 40, 41, 42, 43, 44, 45, 46, 47] (by decide +kernel) (by decide +kernel)
set_option maxRecDepth 20000 in
theorem gX1_sum_X1_reduce : GoodIn wsX1_sum (wsV RX1 86 RX1 yX1_reduce wsX1_reduce) := goodIn_app (goodIn_of _ (by decide +kernel)) ggX1_sum_X1_reduce
set_option maxRecDepth 20000 in
theorem ggX1_sum_X1_lay : GoodIn wsX1_sum wsX1_lay := goodIn_r _ [33, 28, 2, 34, 35, 36, 9, 10, 6, 11, 37, 38, 39, 40, 41, 42, 43, 44, 45, 46, 47] (by decide +kernel) (by decide +kernel)
set_option maxRecDepth 20000 in
theorem gX1_sum_X1_lay : GoodIn wsX1_sum (wsV RX1 89 RX1 yX1_lay wsX1_lay) := goodIn_app (goodIn_of _ (by decide +kernel)) ggX1_sum_X1_lay
theorem dX1_sum_0 : decode cX1_sum 0 = .ok (.iload_n 1, 1) := by decide +kernel
theorem dX1_sum_1 : decode cX1_sum 1 = .ok (.invokestatic 80, 3) := by decide +kernel
theorem dX1_sum_4 : decode cX1_sum 4 = .ok (.ifCond .ne 6, 3) := by decide +kernel
theorem dX1_sum_7 : decode cX1_sum 7 = .ok (.bipush (-2), 2) := by decide +kernel
theorem dX1_sum_9 : decode cX1_sum 9 = .ok (.ireturn, 1) := by decide +kernel
theorem dX1_sum_10 : decode cX1_sum 10 = .ok (.aload_n 0, 1) := by decide +kernel
theorem dX1_sum_11 : decode cX1_sum 11 = .ok (.invokevirtual 83, 3) := by decide +kernel
theorem dX1_sum_14 : decode cX1_sum 14 = .ok (.iconst 2, 1) := by decide +kernel
theorem dX1_sum_15 : decode cX1_sum 15 = .ok (.istore 4, 2) := by decide +kernel
theorem dX1_sum_17 : decode cX1_sum 17 = .ok (.iload 4, 2) := by decide +kernel
theorem dX1_sum_19 : decode cX1_sum 19 = .ok (.aload_n 0, 1) := by decide +kernel
theorem dX1_sum_20 : decode cX1_sum 20 = .ok (.getfield 42, 3) := by decide +kernel
theorem dX1_sum_23 : decode cX1_sum 23 = .ok (.if_icmp .ge 57, 3) := by decide +kernel
theorem dX1_sum_26 : decode cX1_sum 26 = .ok (.iload_n 2, 1) := by decide +kernel
theorem dX1_sum_27 : decode cX1_sum 27 = .ok (.i2l, 1) := by decide +kernel
theorem dX1_sum_28 : decode cX1_sum 28 = .ok (.aload_n 0, 1) := by decide +kernel
theorem dX1_sum_29 : decode cX1_sum 29 = .ok (.iload 4, 2) := by decide +kernel
theorem dX1_sum_31 : decode cX1_sum 31 = .ok (.invokevirtual 72, 3) := by decide +kernel
theorem dX1_sum_34 : decode cX1_sum 34 = .ok (.i2l, 1) := by decide +kernel
theorem dX1_sum_35 : decode cX1_sum 35 = .ok (.lmul, 1) := by decide +kernel
theorem dX1_sum_36 : decode cX1_sum 36 = .ok (.iload_n 3, 1) := by decide +kernel
theorem dX1_sum_37 : decode cX1_sum 37 = .ok (.i2l, 1) := by decide +kernel
theorem dX1_sum_38 : decode cX1_sum 38 = .ok (.aload_n 0, 1) := by decide +kernel
theorem dX1_sum_39 : decode cX1_sum 39 = .ok (.aload_n 0, 1) := by decide +kernel
theorem dX1_sum_40 : decode cX1_sum 40 = .ok (.getfield 42, 3) := by decide +kernel
theorem dX1_sum_43 : decode cX1_sum 43 = .ok (.iconst 1, 1) := by decide +kernel
theorem dX1_sum_44 : decode cX1_sum 44 = .ok (.iadd, 1) := by decide +kernel
theorem dX1_sum_45 : decode cX1_sum 45 = .ok (.iload 4, 2) := by decide +kernel
theorem dX1_sum_47 : decode cX1_sum 47 = .ok (.isub, 1) := by decide +kernel
theorem dX1_sum_48 : decode cX1_sum 48 = .ok (.invokevirtual 72, 3) := by decide +kernel
theorem dX1_sum_51 : decode cX1_sum 51 = .ok (.i2l, 1) := by decide +kernel
theorem dX1_sum_52 : decode cX1_sum 52 = .ok (.lmul, 1) := by decide +kernel
theorem dX1_sum_53 : decode cX1_sum 53 = .ok (.ladd, 1) := by decide +kernel
theorem dX1_sum_54 : decode cX1_sum 54 = .ok (.lstore 5, 2) := by decide +kernel
theorem dX1_sum_56 : decode cX1_sum 56 = .ok (.aload_n 0, 1) := by decide +kernel
theorem dX1_sum_57 : decode cX1_sum 57 = .ok (.getfield 20, 3) := by decide +kernel
theorem dX1_sum_60 : decode cX1_sum 60 = .ok (.lload 5, 2) := by decide +kernel
theorem dX1_sum_62 : decode cX1_sum 62 = .ok (.aload_n 0, 1) := by decide +kernel
theorem dX1_sum_63 : decode cX1_sum 63 = .ok (.getfield 52, 3) := by decide +kernel
theorem dX1_sum_66 : decode cX1_sum 66 = .ok (.invokestatic 68, 3) := by decide +kernel
theorem dX1_sum_69 : decode cX1_sum 69 = .ok (.dup2, 1) := by decide +kernel
theorem dX1_sum_70 : decode cX1_sum 70 = .ok (.laload, 1) := by decide +kernel
theorem dX1_sum_71 : decode cX1_sum 71 = .ok (.lconst 1, 1) := by decide +kernel
theorem dX1_sum_72 : decode cX1_sum 72 = .ok (.ladd, 1) := by decide +kernel
theorem dX1_sum_73 : decode cX1_sum 73 = .ok (.lastore, 1) := by decide +kernel
theorem dX1_sum_74 : decode cX1_sum 74 = .ok (.iinc 4 1, 3) := by decide +kernel
theorem dX1_sum_77 : decode cX1_sum 77 = .ok (.goto (-60), 3) := by decide +kernel
theorem dX1_sum_80 : decode cX1_sum 80 = .ok (.aload_n 0, 1) := by decide +kernel
theorem dX1_sum_81 : decode cX1_sum 81 = .ok (.invokevirtual 86, 3) := by decide +kernel
theorem dX1_sum_84 : decode cX1_sum 84 = .ok (.aload_n 0, 1) := by decide +kernel
theorem dX1_sum_85 : decode cX1_sum 85 = .ok (.iload_n 1, 1) := by decide +kernel
theorem dX1_sum_86 : decode cX1_sum 86 = .ok (.invokevirtual 89, 3) := by decide +kernel
theorem dX1_sum_89 : decode cX1_sum 89 = .ok (.pop, 1) := by decide +kernel
theorem dX1_sum_90 : decode cX1_sum 90 = .ok (.aload_n 0, 1) := by decide +kernel
theorem dX1_sum_91 : decode cX1_sum 91 = .ok (.getfield 42, 3) := by decide +kernel
theorem dX1_sum_94 : decode cX1_sum 94 = .ok (.iconst 2, 1) := by decide +kernel
theorem dX1_sum_95 : decode cX1_sum 95 = .ok (.isub, 1) := by decide +kernel
theorem dX1_sum_96 : decode cX1_sum 96 = .ok (.ireturn, 1) := by decide +kernel
set_option maxRecDepth 20000 in
theorem ggX1_unit_X1_isHold : GoodIn wsX1_unit wsX1_isHold := goodIn_r _ [8, 9, 10, 11, 7, 12] (by decide +kernel) (by decide +kernel)
set_option maxRecDepth 20000 in
theorem gX1_unit_X1_isHold : GoodIn wsX1_unit (va_wsS RX1 80 yX1_isHold wsX1_isHold) := goodIn_app (goodIn_of _ (by decide +kernel)) ggX1_unit_X1_isHold
set_option maxRecDepth 20000 in
theorem ggX1_unit_X1_in : GoodIn wsX1_unit wsX1_in := goodIn_r _ [12] (by decide +kernel) (by decide +kernel)
set_option maxRecDepth 20000 in
theorem gX1_unit_X1_in : GoodIn wsX1_unit (va_wsS RX1 38 yX1_in wsX1_in) := goodIn_app (goodIn_of _ (by decide +kernel)) ggX1_unit_X1_in
set_option maxRecDepth 20000 in
theorem ggX1_unit_X1_empty : GoodIn wsX1_unit wsX1_empty := goodIn_r _ [16, 3, 33, 34, 35, 36, 37, 38, 39, 40, 41, 42, 43] (by decide +kernel) (by decide +kernel)
set_option maxRecDepth 20000 in
theorem gX1_unit_X1_empty : GoodIn wsX1_unit (wsV RX1 83 RX1 yX1_empty wsX1_empty) := goodIn_app (goodIn_of _ (by decide +kernel)) ggX1_unit_X1_empty
set_option maxRecDepth 20000 in
theorem ggX1_unit_X1_rem : GoodIn wsX1_unit wsX1_rem := goodIn_r _ [19] (by decide +kernel) (by decide +kernel)
set_option maxRecDepth 20000 in
theorem gX1_unit_X1_rem : GoodIn wsX1_unit (va_wsS RX1 68 yX1_rem wsX1_rem) := goodIn_app (goodIn_of _ (by decide +kernel)) ggX1_unit_X1_rem
set_option maxRecDepth 20000 in
theorem ggX1_unit_X1_reduce : GoodIn wsX1_unit wsX1_reduce := goodIn_r _ [23, 24, 3, 25, 33, 34, 35, 36, 37, 38, 39, 40, 41, 42, 43] (by decide +kernel) (by decide +kernel)
set_option maxRecDepth 20000 in
theorem gX1_unit_X1_reduce : GoodIn wsX1_unit (wsV RX1 86 RX1 yX1_reduce wsX1_reduce) := goodIn_app (goodIn_of _ (by decide +kernel)) ggX1_unit_X1_reduce
set_option maxRecDepth 20000 in
theorem ggX1_unit_X1_lay : GoodIn wsX1_unit wsX1_lay := goodIn_r _ [29, 24, 3, 30, 31, 32, 10, 11, 7, 12, 33, 34, 35, 36, 37, 38, 39, 40, 41, 42, 43] (by decide +kernel) (by decide +kernel)
set_option maxRecDepth 20000 in
theorem gX1_unit_X1_lay : GoodIn wsX1_unit (wsV RX1 89 RX1 yX1_lay wsX1_lay) := goodIn_app (goodIn_of _ (by decide +kernel)) ggX1_unit_X1_lay
theorem dX1_unit_0 : decode cX1_unit 0 = .ok (.iload_n 1, 1) := by decide +kernel
theorem dX1_unit_1 : decode cX1_unit 1 = .ok (.invokestatic 80, 3) := by decide +kernel
theorem dX1_unit_4 : decode cX1_unit 4 = .ok (.ifCond .ne 6, 3) := by decide +kernel
theorem dX1_unit_7 : decode cX1_unit 7 = .ok (.bipush (-2), 2) := by decide +kernel
theorem dX1_unit_9 : decode cX1_unit 9 = .ok (.ireturn, 1) := by decide +kernel
theorem dX1_unit_10 : decode cX1_unit 10 = .ok (.iload_n 2, 1) := by decide +kernel
theorem dX1_unit_11 : decode cX1_unit 11 = .ok (.i2l, 1) := by decide +kernel
theorem dX1_unit_12 : decode cX1_unit 12 = .ok (.ldc2_w 92, 3) := by decide +kernel
theorem dX1_unit_15 : decode cX1_unit 15 = .ok (.ldc2_w 94, 3) := by decide +kernel
theorem dX1_unit_18 : decode cX1_unit 18 = .ok (.invokestatic 38, 3) := by decide +kernel
theorem dX1_unit_21 : decode cX1_unit 21 = .ok (.ifCond .ne 6, 3) := by decide +kernel
theorem dX1_unit_24 : decode cX1_unit 24 = .ok (.bipush (-3), 2) := by decide +kernel
theorem dX1_unit_26 : decode cX1_unit 26 = .ok (.ireturn, 1) := by decide +kernel
theorem dX1_unit_27 : decode cX1_unit 27 = .ok (.aload_n 0, 1) := by decide +kernel
theorem dX1_unit_28 : decode cX1_unit 28 = .ok (.invokevirtual 83, 3) := by decide +kernel
theorem dX1_unit_31 : decode cX1_unit 31 = .ok (.aload_n 0, 1) := by decide +kernel
theorem dX1_unit_32 : decode cX1_unit 32 = .ok (.getfield 20, 3) := by decide +kernel
theorem dX1_unit_35 : decode cX1_unit 35 = .ok (.iload_n 3, 1) := by decide +kernel
theorem dX1_unit_36 : decode cX1_unit 36 = .ok (.i2l, 1) := by decide +kernel
theorem dX1_unit_37 : decode cX1_unit 37 = .ok (.aload_n 0, 1) := by decide +kernel
theorem dX1_unit_38 : decode cX1_unit 38 = .ok (.getfield 52, 3) := by decide +kernel
theorem dX1_unit_41 : decode cX1_unit 41 = .ok (.invokestatic 68, 3) := by decide +kernel
theorem dX1_unit_44 : decode cX1_unit 44 = .ok (.iload_n 2, 1) := by decide +kernel
theorem dX1_unit_45 : decode cX1_unit 45 = .ok (.i2l, 1) := by decide +kernel
theorem dX1_unit_46 : decode cX1_unit 46 = .ok (.lastore, 1) := by decide +kernel
theorem dX1_unit_47 : decode cX1_unit 47 = .ok (.aload_n 0, 1) := by decide +kernel
theorem dX1_unit_48 : decode cX1_unit 48 = .ok (.invokevirtual 86, 3) := by decide +kernel
theorem dX1_unit_51 : decode cX1_unit 51 = .ok (.aload_n 0, 1) := by decide +kernel
theorem dX1_unit_52 : decode cX1_unit 52 = .ok (.iload_n 1, 1) := by decide +kernel
theorem dX1_unit_53 : decode cX1_unit 53 = .ok (.invokevirtual 89, 3) := by decide +kernel
theorem dX1_unit_56 : decode cX1_unit 56 = .ok (.ireturn, 1) := by decide +kernel
set_option maxRecDepth 20000 in
theorem ggX1_times_X1_empty : GoodIn wsX1_times wsX1_empty := goodIn_r _ [8, 2, 14, 15, 16, 17, 18, 19, 20, 21, 22, 23, 24] (by decide +kernel) (by decide +kernel)
set_option maxRecDepth 20000 in
theorem gX1_times_X1_empty : GoodIn wsX1_times (wsV RX1 83 RX1 yX1_empty wsX1_empty) := goodIn_app (goodIn_of _ (by decide +kernel)) ggX1_times_X1_empty
set_option maxRecDepth 20000 in
theorem ggX1_times_X1_reduce : GoodIn wsX1_times wsX1_reduce := goodIn_r _ [12, 1, 2, 13, 14, 15, 16, 17, 18, 19, 20, 21, 22, 23, 24] (by decide +kernel) (by decide +kernel)
set_option maxRecDepth 20000 in
theorem gX1_times_X1_reduce : GoodIn wsX1_times (wsV RX1 86 RX1 yX1_reduce wsX1_reduce) := goodIn_app (goodIn_of _ (by decide +kernel)) ggX1_times_X1_reduce
theorem dX1_times_0 : decode cX1_times 0 = .ok (.aload_n 0, 1) := by decide +kernel
theorem dX1_times_1 : decode cX1_times 1 = .ok (.invokevirtual 83, 3) := by decide +kernel
theorem dX1_times_4 : decode cX1_times 4 = .ok (.iconst 0, 1) := by decide +kernel
theorem dX1_times_5 : decode cX1_times 5 = .ok (.istore 4, 2) := by decide +kernel
theorem dX1_times_7 : decode cX1_times 7 = .ok (.iload 4, 2) := by decide +kernel
theorem dX1_times_9 : decode cX1_times 9 = .ok (.aload_n 0, 1) := by decide +kernel
theorem dX1_times_10 : decode cX1_times 10 = .ok (.getfield 55, 3) := by decide +kernel
theorem dX1_times_13 : decode cX1_times 13 = .ok (.if_icmp .ge 59, 3) := by decide +kernel
theorem dX1_times_16 : decode cX1_times 16 = .ok (.iconst 0, 1) := by decide +kernel
theorem dX1_times_17 : decode cX1_times 17 = .ok (.istore 5, 2) := by decide +kernel
theorem dX1_times_19 : decode cX1_times 19 = .ok (.iload 5, 2) := by decide +kernel
theorem dX1_times_21 : decode cX1_times 21 = .ok (.aload_n 0, 1) := by decide +kernel
theorem dX1_times_22 : decode cX1_times 22 = .ok (.getfield 55, 3) := by decide +kernel
theorem dX1_times_25 : decode cX1_times 25 = .ok (.if_icmp .ge 41, 3) := by decide +kernel
theorem dX1_times_28 : decode cX1_times 28 = .ok (.aload_n 0, 1) := by decide +kernel
theorem dX1_times_29 : decode cX1_times 29 = .ok (.getfield 20, 3) := by decide +kernel
theorem dX1_times_32 : decode cX1_times 32 = .ok (.iload 4, 2) := by decide +kernel
theorem dX1_times_34 : decode cX1_times 34 = .ok (.iload 5, 2) := by decide +kernel
theorem dX1_times_36 : decode cX1_times 36 = .ok (.iadd, 1) := by decide +kernel
theorem dX1_times_37 : decode cX1_times 37 = .ok (.dup2, 1) := by decide +kernel
theorem dX1_times_38 : decode cX1_times 38 = .ok (.laload, 1) := by decide +kernel
theorem dX1_times_39 : decode cX1_times 39 = .ok (.aload_n 0, 1) := by decide +kernel
theorem dX1_times_40 : decode cX1_times 40 = .ok (.getfield 13, 3) := by decide +kernel
theorem dX1_times_43 : decode cX1_times 43 = .ok (.bipush 12, 2) := by decide +kernel
theorem dX1_times_45 : decode cX1_times 45 = .ok (.iload_n 1, 1) := by decide +kernel
theorem dX1_times_46 : decode cX1_times 46 = .ok (.imul, 1) := by decide +kernel
theorem dX1_times_47 : decode cX1_times 47 = .ok (.iload 4, 2) := by decide +kernel
theorem dX1_times_49 : decode cX1_times 49 = .ok (.iadd, 1) := by decide +kernel
theorem dX1_times_50 : decode cX1_times 50 = .ok (.laload, 1) := by decide +kernel
theorem dX1_times_51 : decode cX1_times 51 = .ok (.aload_n 2, 1) := by decide +kernel
theorem dX1_times_52 : decode cX1_times 52 = .ok (.iload_n 3, 1) := by decide +kernel
theorem dX1_times_53 : decode cX1_times 53 = .ok (.iload 5, 2) := by decide +kernel
theorem dX1_times_55 : decode cX1_times 55 = .ok (.iadd, 1) := by decide +kernel
theorem dX1_times_56 : decode cX1_times 56 = .ok (.laload, 1) := by decide +kernel
theorem dX1_times_57 : decode cX1_times 57 = .ok (.lmul, 1) := by decide +kernel
theorem dX1_times_58 : decode cX1_times 58 = .ok (.ladd, 1) := by decide +kernel
theorem dX1_times_59 : decode cX1_times 59 = .ok (.lastore, 1) := by decide +kernel
theorem dX1_times_60 : decode cX1_times 60 = .ok (.iinc 5 1, 3) := by decide +kernel
theorem dX1_times_63 : decode cX1_times 63 = .ok (.goto (-44), 3) := by decide +kernel
theorem dX1_times_66 : decode cX1_times 66 = .ok (.iinc 4 1, 3) := by decide +kernel
theorem dX1_times_69 : decode cX1_times 69 = .ok (.goto (-62), 3) := by decide +kernel
theorem dX1_times_72 : decode cX1_times 72 = .ok (.aload_n 0, 1) := by decide +kernel
theorem dX1_times_73 : decode cX1_times 73 = .ok (.invokevirtual 86, 3) := by decide +kernel
theorem dX1_times_76 : decode cX1_times 76 = .ok (.return_, 1) := by decide +kernel
set_option maxRecDepth 20000 in
theorem ggX1_join_X1_isHold : GoodIn wsX1_join wsX1_isHold := goodIn_r _ [8, 9, 10, 11, 7, 12] (by decide +kernel) (by decide +kernel)
set_option maxRecDepth 20000 in
theorem gX1_join_X1_isHold : GoodIn wsX1_join (va_wsS RX1 80 yX1_isHold wsX1_isHold) := goodIn_app (goodIn_of _ (by decide +kernel)) ggX1_join_X1_isHold
set_option maxRecDepth 20000 in
theorem ggX1_join_X1_in : GoodIn wsX1_join wsX1_in := goodIn_r _ [12] (by decide +kernel) (by decide +kernel)
set_option maxRecDepth 20000 in
theorem gX1_join_X1_in : GoodIn wsX1_join (va_wsS RX1 38 yX1_in wsX1_in) := goodIn_app (goodIn_of _ (by decide +kernel)) ggX1_join_X1_in
set_option maxRecDepth 20000 in
theorem ggX1_join_X1_times : GoodIn wsX1_join wsX1_times := goodIn_r _ [16, 3, 4, 2, 17, 18, 19, 7, 20, 21, 22, 23, 24, 25, 32, 33, 34, 35, 36, 37, 38, 39, 40, 41, 42] (by decide +kernel) (by decide +kernel)
set_option maxRecDepth 20000 in
theorem gX1_join_X1_times : GoodIn wsX1_join (wsV RX1 98 RX1 yX1_times wsX1_times) := goodIn_app (goodIn_of _ (by decide +kernel)) ggX1_join_X1_times
set_option maxRecDepth 20000 in
theorem ggX1_join_X1_empty : GoodIn wsX1_join wsX1_empty := goodIn_r _ [20, 4, 32, 33, 34, 35, 36, 37, 38, 39, 40, 41, 42] (by decide +kernel) (by decide +kernel)
set_option maxRecDepth 20000 in
theorem gX1_join_X1_empty : GoodIn wsX1_join (wsV RX1 83 RX1 yX1_empty wsX1_empty) := goodIn_app (goodIn_of _ (by decide +kernel)) ggX1_join_X1_empty
set_option maxRecDepth 20000 in
theorem ggX1_join_X1_lay : GoodIn wsX1_join wsX1_lay := goodIn_r _ [29, 3, 4, 30, 31, 2, 10, 11, 7, 12, 32, 33, 34, 35, 36, 37, 38, 39, 40, 41, 42] (by decide +kernel) (by decide +kernel)
set_option maxRecDepth 20000 in
theorem gX1_join_X1_lay : GoodIn wsX1_join (wsV RX1 89 RX1 yX1_lay wsX1_lay) := goodIn_app (goodIn_of _ (by decide +kernel)) ggX1_join_X1_lay
theorem dX1_join_0 : decode cX1_join 0 = .ok (.iload_n 1, 1) := by decide +kernel
theorem dX1_join_1 : decode cX1_join 1 = .ok (.invokestatic 80, 3) := by decide +kernel
theorem dX1_join_4 : decode cX1_join 4 = .ok (.ifCond .eq 18, 3) := by decide +kernel
theorem dX1_join_7 : decode cX1_join 7 = .ok (.iload_n 3, 1) := by decide +kernel
theorem dX1_join_8 : decode cX1_join 8 = .ok (.invokestatic 80, 3) := by decide +kernel
theorem dX1_join_11 : decode cX1_join 11 = .ok (.ifCond .eq 11, 3) := by decide +kernel
theorem dX1_join_14 : decode cX1_join 14 = .ok (.iload 4, 2) := by decide +kernel
theorem dX1_join_16 : decode cX1_join 16 = .ok (.invokestatic 80, 3) := by decide +kernel
theorem dX1_join_19 : decode cX1_join 19 = .ok (.ifCond .ne 6, 3) := by decide +kernel
theorem dX1_join_22 : decode cX1_join 22 = .ok (.bipush (-2), 2) := by decide +kernel
theorem dX1_join_24 : decode cX1_join 24 = .ok (.ireturn, 1) := by decide +kernel
theorem dX1_join_25 : decode cX1_join 25 = .ok (.iload_n 2, 1) := by decide +kernel
theorem dX1_join_26 : decode cX1_join 26 = .ok (.i2l, 1) := by decide +kernel
theorem dX1_join_27 : decode cX1_join 27 = .ok (.lconst 0, 1) := by decide +kernel
theorem dX1_join_28 : decode cX1_join 28 = .ok (.ldc2_w 96, 3) := by decide +kernel
theorem dX1_join_31 : decode cX1_join 31 = .ok (.invokestatic 38, 3) := by decide +kernel
theorem dX1_join_34 : decode cX1_join 34 = .ok (.ifCond .ne 6, 3) := by decide +kernel
theorem dX1_join_37 : decode cX1_join 37 = .ok (.bipush (-3), 2) := by decide +kernel
theorem dX1_join_39 : decode cX1_join 39 = .ok (.ireturn, 1) := by decide +kernel
theorem dX1_join_40 : decode cX1_join 40 = .ok (.iload_n 2, 1) := by decide +kernel
theorem dX1_join_41 : decode cX1_join 41 = .ok (.iconst 2, 1) := by decide +kernel
theorem dX1_join_42 : decode cX1_join 42 = .ok (.if_icmp .ne 20, 3) := by decide +kernel
theorem dX1_join_45 : decode cX1_join 45 = .ok (.aload_n 0, 1) := by decide +kernel
theorem dX1_join_46 : decode cX1_join 46 = .ok (.iload_n 3, 1) := by decide +kernel
theorem dX1_join_47 : decode cX1_join 47 = .ok (.aload_n 0, 1) := by decide +kernel
theorem dX1_join_48 : decode cX1_join 48 = .ok (.getfield 13, 3) := by decide +kernel
theorem dX1_join_51 : decode cX1_join 51 = .ok (.bipush 12, 2) := by decide +kernel
theorem dX1_join_53 : decode cX1_join 53 = .ok (.iload 4, 2) := by decide +kernel
theorem dX1_join_55 : decode cX1_join 55 = .ok (.imul, 1) := by decide +kernel
theorem dX1_join_56 : decode cX1_join 56 = .ok (.invokevirtual 98, 3) := by decide +kernel
theorem dX1_join_59 : decode cX1_join 59 = .ok (.goto 91, 3) := by decide +kernel
theorem dX1_join_62 : decode cX1_join 62 = .ok (.aload_n 0, 1) := by decide +kernel
theorem dX1_join_63 : decode cX1_join 63 = .ok (.invokevirtual 83, 3) := by decide +kernel
theorem dX1_join_66 : decode cX1_join 66 = .ok (.iconst 0, 1) := by decide +kernel
theorem dX1_join_67 : decode cX1_join 67 = .ok (.istore 5, 2) := by decide +kernel
theorem dX1_join_69 : decode cX1_join 69 = .ok (.iload 5, 2) := by decide +kernel
theorem dX1_join_71 : decode cX1_join 71 = .ok (.aload_n 0, 1) := by decide +kernel
theorem dX1_join_72 : decode cX1_join 72 = .ok (.getfield 55, 3) := by decide +kernel
theorem dX1_join_75 : decode cX1_join 75 = .ok (.if_icmp .ge 75, 3) := by decide +kernel
theorem dX1_join_78 : decode cX1_join 78 = .ok (.aload_n 0, 1) := by decide +kernel
theorem dX1_join_79 : decode cX1_join 79 = .ok (.getfield 20, 3) := by decide +kernel
theorem dX1_join_82 : decode cX1_join 82 = .ok (.iload 5, 2) := by decide +kernel
theorem dX1_join_84 : decode cX1_join 84 = .ok (.iload_n 2, 1) := by decide +kernel
theorem dX1_join_85 : decode cX1_join 85 = .ok (.ifCond .ne 32, 3) := by decide +kernel
theorem dX1_join_88 : decode cX1_join 88 = .ok (.aload_n 0, 1) := by decide +kernel
theorem dX1_join_89 : decode cX1_join 89 = .ok (.getfield 13, 3) := by decide +kernel
theorem dX1_join_92 : decode cX1_join 92 = .ok (.bipush 12, 2) := by decide +kernel
theorem dX1_join_94 : decode cX1_join 94 = .ok (.iload_n 3, 1) := by decide +kernel
theorem dX1_join_95 : decode cX1_join 95 = .ok (.imul, 1) := by decide +kernel
theorem dX1_join_96 : decode cX1_join 96 = .ok (.iload 5, 2) := by decide +kernel
theorem dX1_join_98 : decode cX1_join 98 = .ok (.iadd, 1) := by decide +kernel
theorem dX1_join_99 : decode cX1_join 99 = .ok (.laload, 1) := by decide +kernel
theorem dX1_join_100 : decode cX1_join 100 = .ok (.aload_n 0, 1) := by decide +kernel
theorem dX1_join_101 : decode cX1_join 101 = .ok (.getfield 13, 3) := by decide +kernel
theorem dX1_join_104 : decode cX1_join 104 = .ok (.bipush 12, 2) := by decide +kernel
theorem dX1_join_106 : decode cX1_join 106 = .ok (.iload 4, 2) := by decide +kernel
theorem dX1_join_108 : decode cX1_join 108 = .ok (.imul, 1) := by decide +kernel
theorem dX1_join_109 : decode cX1_join 109 = .ok (.iload 5, 2) := by decide +kernel
theorem dX1_join_111 : decode cX1_join 111 = .ok (.iadd, 1) := by decide +kernel
theorem dX1_join_112 : decode cX1_join 112 = .ok (.laload, 1) := by decide +kernel
theorem dX1_join_113 : decode cX1_join 113 = .ok (.ladd, 1) := by decide +kernel
theorem dX1_join_114 : decode cX1_join 114 = .ok (.goto 29, 3) := by decide +kernel
theorem dX1_join_117 : decode cX1_join 117 = .ok (.aload_n 0, 1) := by decide +kernel
theorem dX1_join_118 : decode cX1_join 118 = .ok (.getfield 13, 3) := by decide +kernel
theorem dX1_join_121 : decode cX1_join 121 = .ok (.bipush 12, 2) := by decide +kernel
theorem dX1_join_123 : decode cX1_join 123 = .ok (.iload_n 3, 1) := by decide +kernel
theorem dX1_join_124 : decode cX1_join 124 = .ok (.imul, 1) := by decide +kernel
theorem dX1_join_125 : decode cX1_join 125 = .ok (.iload 5, 2) := by decide +kernel
theorem dX1_join_127 : decode cX1_join 127 = .ok (.iadd, 1) := by decide +kernel
theorem dX1_join_128 : decode cX1_join 128 = .ok (.laload, 1) := by decide +kernel
theorem dX1_join_129 : decode cX1_join 129 = .ok (.aload_n 0, 1) := by decide +kernel
theorem dX1_join_130 : decode cX1_join 130 = .ok (.getfield 13, 3) := by decide +kernel
theorem dX1_join_133 : decode cX1_join 133 = .ok (.bipush 12, 2) := by decide +kernel
theorem dX1_join_135 : decode cX1_join 135 = .ok (.iload 4, 2) := by decide +kernel
theorem dX1_join_137 : decode cX1_join 137 = .ok (.imul, 1) := by decide +kernel
theorem dX1_join_138 : decode cX1_join 138 = .ok (.iload 5, 2) := by decide +kernel
theorem dX1_join_140 : decode cX1_join 140 = .ok (.iadd, 1) := by decide +kernel
theorem dX1_join_141 : decode cX1_join 141 = .ok (.laload, 1) := by decide +kernel
theorem dX1_join_142 : decode cX1_join 142 = .ok (.lsub, 1) := by decide +kernel
theorem dX1_join_143 : decode cX1_join 143 = .ok (.lastore, 1) := by decide +kernel
theorem dX1_join_144 : decode cX1_join 144 = .ok (.iinc 5 1, 3) := by decide +kernel
theorem dX1_join_147 : decode cX1_join 147 = .ok (.goto (-78), 3) := by decide +kernel
theorem dX1_join_150 : decode cX1_join 150 = .ok (.aload_n 0, 1) := by decide +kernel
theorem dX1_join_151 : decode cX1_join 151 = .ok (.iload_n 1, 1) := by decide +kernel
theorem dX1_join_152 : decode cX1_join 152 = .ok (.invokevirtual 89, 3) := by decide +kernel
theorem dX1_join_155 : decode cX1_join 155 = .ok (.ireturn, 1) := by decide +kernel
set_option maxRecDepth 20000 in
theorem ggX1_turnOver_X1_empty : GoodIn wsX1_turnOver wsX1_empty := goodIn_r _ [9, 2, 18, 19, 20, 21, 22, 23, 24, 25, 26, 27, 28] (by decide +kernel) (by decide +kernel)
set_option maxRecDepth 20000 in
theorem gX1_turnOver_X1_empty : GoodIn wsX1_turnOver (wsV RX1 83 RX1 yX1_empty wsX1_empty) := goodIn_app (goodIn_of _ (by decide +kernel)) ggX1_turnOver_X1_empty
set_option maxRecDepth 20000 in
theorem ggX1_turnOver_X1_rem : GoodIn wsX1_turnOver wsX1_rem := goodIn_r _ [12] (by decide +kernel) (by decide +kernel)
set_option maxRecDepth 20000 in
theorem gX1_turnOver_X1_rem : GoodIn wsX1_turnOver (va_wsS RX1 68 yX1_rem wsX1_rem) := goodIn_app (goodIn_of _ (by decide +kernel)) ggX1_turnOver_X1_rem
set_option maxRecDepth 20000 in
theorem ggX1_turnOver_X1_reduce : GoodIn wsX1_turnOver wsX1_reduce := goodIn_r _ [16, 1, 2, 17, 18, 19, 20, 21, 22, 23, 24, 25, 26, 27, 28] (by decide +kernel) (by decide +kernel)
set_option maxRecDepth 20000 in
theorem gX1_turnOver_X1_reduce : GoodIn wsX1_turnOver (wsV RX1 86 RX1 yX1_reduce wsX1_reduce) := goodIn_app (goodIn_of _ (by decide +kernel)) ggX1_turnOver_X1_reduce
theorem dX1_turnOver_0 : decode cX1_turnOver 0 = .ok (.aload_n 0, 1) := by decide +kernel
theorem dX1_turnOver_1 : decode cX1_turnOver 1 = .ok (.invokevirtual 83, 3) := by decide +kernel
theorem dX1_turnOver_4 : decode cX1_turnOver 4 = .ok (.iconst 0, 1) := by decide +kernel
theorem dX1_turnOver_5 : decode cX1_turnOver 5 = .ok (.istore_n 3, 1) := by decide +kernel
theorem dX1_turnOver_6 : decode cX1_turnOver 6 = .ok (.iload_n 3, 1) := by decide +kernel
theorem dX1_turnOver_7 : decode cX1_turnOver 7 = .ok (.aload_n 0, 1) := by decide +kernel
theorem dX1_turnOver_8 : decode cX1_turnOver 8 = .ok (.getfield 55, 3) := by decide +kernel
theorem dX1_turnOver_11 : decode cX1_turnOver 11 = .ok (.if_icmp .ge 40, 3) := by decide +kernel
theorem dX1_turnOver_14 : decode cX1_turnOver 14 = .ok (.aload_n 0, 1) := by decide +kernel
theorem dX1_turnOver_15 : decode cX1_turnOver 15 = .ok (.getfield 20, 3) := by decide +kernel
theorem dX1_turnOver_18 : decode cX1_turnOver 18 = .ok (.iload_n 3, 1) := by decide +kernel
theorem dX1_turnOver_19 : decode cX1_turnOver 19 = .ok (.i2l, 1) := by decide +kernel
theorem dX1_turnOver_20 : decode cX1_turnOver 20 = .ok (.iload_n 2, 1) := by decide +kernel
theorem dX1_turnOver_21 : decode cX1_turnOver 21 = .ok (.i2l, 1) := by decide +kernel
theorem dX1_turnOver_22 : decode cX1_turnOver 22 = .ok (.lmul, 1) := by decide +kernel
theorem dX1_turnOver_23 : decode cX1_turnOver 23 = .ok (.aload_n 0, 1) := by decide +kernel
theorem dX1_turnOver_24 : decode cX1_turnOver 24 = .ok (.getfield 52, 3) := by decide +kernel
theorem dX1_turnOver_27 : decode cX1_turnOver 27 = .ok (.invokestatic 68, 3) := by decide +kernel
theorem dX1_turnOver_30 : decode cX1_turnOver 30 = .ok (.dup2, 1) := by decide +kernel
theorem dX1_turnOver_31 : decode cX1_turnOver 31 = .ok (.laload, 1) := by decide +kernel
theorem dX1_turnOver_32 : decode cX1_turnOver 32 = .ok (.aload_n 0, 1) := by decide +kernel
theorem dX1_turnOver_33 : decode cX1_turnOver 33 = .ok (.getfield 13, 3) := by decide +kernel
theorem dX1_turnOver_36 : decode cX1_turnOver 36 = .ok (.bipush 12, 2) := by decide +kernel
theorem dX1_turnOver_38 : decode cX1_turnOver 38 = .ok (.iload_n 1, 1) := by decide +kernel
theorem dX1_turnOver_39 : decode cX1_turnOver 39 = .ok (.imul, 1) := by decide +kernel
theorem dX1_turnOver_40 : decode cX1_turnOver 40 = .ok (.iload_n 3, 1) := by decide +kernel
theorem dX1_turnOver_41 : decode cX1_turnOver 41 = .ok (.iadd, 1) := by decide +kernel
theorem dX1_turnOver_42 : decode cX1_turnOver 42 = .ok (.laload, 1) := by decide +kernel
theorem dX1_turnOver_43 : decode cX1_turnOver 43 = .ok (.ladd, 1) := by decide +kernel
theorem dX1_turnOver_44 : decode cX1_turnOver 44 = .ok (.lastore, 1) := by decide +kernel
theorem dX1_turnOver_45 : decode cX1_turnOver 45 = .ok (.iinc 3 1, 3) := by decide +kernel
theorem dX1_turnOver_48 : decode cX1_turnOver 48 = .ok (.goto (-42), 3) := by decide +kernel
theorem dX1_turnOver_51 : decode cX1_turnOver 51 = .ok (.aload_n 0, 1) := by decide +kernel
theorem dX1_turnOver_52 : decode cX1_turnOver 52 = .ok (.invokevirtual 86, 3) := by decide +kernel
theorem dX1_turnOver_55 : decode cX1_turnOver 55 = .ok (.return_, 1) := by decide +kernel
set_option maxRecDepth 20000 in
theorem ggX1_turn_X1_isHold : GoodIn wsX1_turn wsX1_isHold := goodIn_r _ [5, 6, 7, 8, 4, 9] (by decide +kernel) (by decide +kernel)
set_option maxRecDepth 20000 in
theorem gX1_turn_X1_isHold : GoodIn wsX1_turn (va_wsS RX1 80 yX1_isHold wsX1_isHold) := goodIn_app (goodIn_of _ (by decide +kernel)) ggX1_turn_X1_isHold
set_option maxRecDepth 20000 in
theorem ggX1_turn_X1_rem : GoodIn wsX1_turn wsX1_rem := goodIn_r _ [12] (by decide +kernel) (by decide +kernel)
set_option maxRecDepth 20000 in
theorem gX1_turn_X1_rem : GoodIn wsX1_turn (va_wsS RX1 68 yX1_rem wsX1_rem) := goodIn_app (goodIn_of _ (by decide +kernel)) ggX1_turn_X1_rem
set_option maxRecDepth 20000 in
theorem ggX1_turn_X1_common : GoodIn wsX1_turn wsX1_common := goodIn_r _ [15] (by decide +kernel) (by decide +kernel)
set_option maxRecDepth 20000 in
theorem gX1_turn_X1_common : GoodIn wsX1_turn (va_wsS RX1 58 yX1_common wsX1_common) := goodIn_app (goodIn_of _ (by decide +kernel)) ggX1_turn_X1_common
set_option maxRecDepth 20000 in
theorem ggX1_turn_X1_turnOver : GoodIn wsX1_turn wsX1_turnOver := goodIn_r _ [19, 20, 21, 1, 22, 23, 24, 25, 4, 26, 10, 11, 12, 27, 28, 29, 30, 31, 38, 39, 40, 41, 42, 43, 44, 45, 46, 47, 48] (by decide +kernel) (by decide +kernel)
set_option maxRecDepth 20000 in
theorem gX1_turn_X1_turnOver : GoodIn wsX1_turn (wsV RX1 102 RX1 yX1_turnOver wsX1_turnOver) := goodIn_app (goodIn_of _ (by decide +kernel)) ggX1_turn_X1_turnOver
set_option maxRecDepth 20000 in
theorem ggX1_turn_X1_lay : GoodIn wsX1_turn wsX1_lay := goodIn_r _ [35, 20, 21, 36, 37, 22, 7, 8, 4, 9, 38, 39, 40, 41, 42, 43, 44, 45, 46, 47, 48] (by decide +kernel) (by decide +kernel)
set_option maxRecDepth 20000 in
theorem gX1_turn_X1_lay : GoodIn wsX1_turn (wsV RX1 89 RX1 yX1_lay wsX1_lay) := goodIn_app (goodIn_of _ (by decide +kernel)) ggX1_turn_X1_lay
theorem dX1_turn_0 : decode cX1_turn 0 = .ok (.iload_n 1, 1) := by decide +kernel
theorem dX1_turn_1 : decode cX1_turn 1 = .ok (.invokestatic 80, 3) := by decide +kernel
theorem dX1_turn_4 : decode cX1_turn 4 = .ok (.ifCond .eq 10, 3) := by decide +kernel
theorem dX1_turn_7 : decode cX1_turn 7 = .ok (.iload_n 2, 1) := by decide +kernel
theorem dX1_turn_8 : decode cX1_turn 8 = .ok (.invokestatic 80, 3) := by decide +kernel
theorem dX1_turn_11 : decode cX1_turn 11 = .ok (.ifCond .ne 6, 3) := by decide +kernel
theorem dX1_turn_14 : decode cX1_turn 14 = .ok (.bipush (-2), 2) := by decide +kernel
theorem dX1_turn_16 : decode cX1_turn 16 = .ok (.ireturn, 1) := by decide +kernel
theorem dX1_turn_17 : decode cX1_turn 17 = .ok (.iload_n 3, 1) := by decide +kernel
theorem dX1_turn_18 : decode cX1_turn 18 = .ok (.i2l, 1) := by decide +kernel
theorem dX1_turn_19 : decode cX1_turn 19 = .ok (.aload_n 0, 1) := by decide +kernel
theorem dX1_turn_20 : decode cX1_turn 20 = .ok (.getfield 52, 3) := by decide +kernel
theorem dX1_turn_23 : decode cX1_turn 23 = .ok (.invokestatic 68, 3) := by decide +kernel
theorem dX1_turn_26 : decode cX1_turn 26 = .ok (.aload_n 0, 1) := by decide +kernel
theorem dX1_turn_27 : decode cX1_turn 27 = .ok (.getfield 52, 3) := by decide +kernel
theorem dX1_turn_30 : decode cX1_turn 30 = .ok (.invokestatic 58, 3) := by decide +kernel
theorem dX1_turn_33 : decode cX1_turn 33 = .ok (.iconst 1, 1) := by decide +kernel
theorem dX1_turn_34 : decode cX1_turn 34 = .ok (.if_icmp .eq 6, 3) := by decide +kernel
theorem dX1_turn_37 : decode cX1_turn 37 = .ok (.bipush (-3), 2) := by decide +kernel
theorem dX1_turn_39 : decode cX1_turn 39 = .ok (.ireturn, 1) := by decide +kernel
theorem dX1_turn_40 : decode cX1_turn 40 = .ok (.aload_n 0, 1) := by decide +kernel
theorem dX1_turn_41 : decode cX1_turn 41 = .ok (.iload_n 2, 1) := by decide +kernel
theorem dX1_turn_42 : decode cX1_turn 42 = .ok (.iload_n 3, 1) := by decide +kernel
theorem dX1_turn_43 : decode cX1_turn 43 = .ok (.invokevirtual 102, 3) := by decide +kernel
theorem dX1_turn_46 : decode cX1_turn 46 = .ok (.aload_n 0, 1) := by decide +kernel
theorem dX1_turn_47 : decode cX1_turn 47 = .ok (.iload_n 1, 1) := by decide +kernel
theorem dX1_turn_48 : decode cX1_turn 48 = .ok (.invokevirtual 89, 3) := by decide +kernel
theorem dX1_turn_51 : decode cX1_turn 51 = .ok (.ireturn, 1) := by decide +kernel
set_option maxRecDepth 20000 in
theorem ggX1_at_X1_isHold : GoodIn wsX1_at wsX1_isHold := goodIn_r _ [7, 8, 9, 10, 6, 11] (by decide +kernel) (by decide +kernel)
set_option maxRecDepth 20000 in
theorem gX1_at_X1_isHold : GoodIn wsX1_at (va_wsS RX1 80 yX1_isHold wsX1_isHold) := goodIn_app (goodIn_of _ (by decide +kernel)) ggX1_at_X1_isHold
set_option maxRecDepth 20000 in
theorem ggX1_at_X1_in : GoodIn wsX1_at wsX1_in := goodIn_r _ [11] (by decide +kernel) (by decide +kernel)
set_option maxRecDepth 20000 in
theorem gX1_at_X1_in : GoodIn wsX1_at (va_wsS RX1 38 yX1_in wsX1_in) := goodIn_app (goodIn_of _ (by decide +kernel)) ggX1_at_X1_in
theorem dX1_at_0 : decode cX1_at 0 = .ok (.iload_n 1, 1) := by decide +kernel
theorem dX1_at_1 : decode cX1_at 1 = .ok (.invokestatic 80, 3) := by decide +kernel
theorem dX1_at_4 : decode cX1_at 4 = .ok (.ifCond .eq 34, 3) := by decide +kernel
theorem dX1_at_7 : decode cX1_at 7 = .ok (.iload_n 2, 1) := by decide +kernel
theorem dX1_at_8 : decode cX1_at 8 = .ok (.i2l, 1) := by decide +kernel
theorem dX1_at_9 : decode cX1_at 9 = .ok (.lconst 0, 1) := by decide +kernel
theorem dX1_at_10 : decode cX1_at 10 = .ok (.aload_n 0, 1) := by decide +kernel
theorem dX1_at_11 : decode cX1_at 11 = .ok (.getfield 55, 3) := by decide +kernel
theorem dX1_at_14 : decode cX1_at 14 = .ok (.iconst 1, 1) := by decide +kernel
theorem dX1_at_15 : decode cX1_at 15 = .ok (.isub, 1) := by decide +kernel
theorem dX1_at_16 : decode cX1_at 16 = .ok (.i2l, 1) := by decide +kernel
theorem dX1_at_17 : decode cX1_at 17 = .ok (.invokestatic 38, 3) := by decide +kernel
theorem dX1_at_20 : decode cX1_at 20 = .ok (.ifCond .eq 18, 3) := by decide +kernel
theorem dX1_at_23 : decode cX1_at 23 = .ok (.aload_n 0, 1) := by decide +kernel
theorem dX1_at_24 : decode cX1_at 24 = .ok (.getfield 13, 3) := by decide +kernel
theorem dX1_at_27 : decode cX1_at 27 = .ok (.bipush 12, 2) := by decide +kernel
theorem dX1_at_29 : decode cX1_at 29 = .ok (.iload_n 1, 1) := by decide +kernel
theorem dX1_at_30 : decode cX1_at 30 = .ok (.imul, 1) := by decide +kernel
theorem dX1_at_31 : decode cX1_at 31 = .ok (.iload_n 2, 1) := by decide +kernel
theorem dX1_at_32 : decode cX1_at 32 = .ok (.iadd, 1) := by decide +kernel
theorem dX1_at_33 : decode cX1_at 33 = .ok (.laload, 1) := by decide +kernel
theorem dX1_at_34 : decode cX1_at 34 = .ok (.l2i, 1) := by decide +kernel
theorem dX1_at_35 : decode cX1_at 35 = .ok (.goto 5, 3) := by decide +kernel
theorem dX1_at_38 : decode cX1_at 38 = .ok (.ldc 106, 2) := by decide +kernel
theorem dX1_at_40 : decode cX1_at 40 = .ok (.ireturn, 1) := by decide +kernel
set_option maxRecDepth 20000 in
theorem ggX1_same_X1_isHold : GoodIn wsX1_same wsX1_isHold := goodIn_r _ [5, 6, 7, 8, 4, 9] (by decide +kernel) (by decide +kernel)
set_option maxRecDepth 20000 in
theorem gX1_same_X1_isHold : GoodIn wsX1_same (va_wsS RX1 80 yX1_isHold wsX1_isHold) := goodIn_app (goodIn_of _ (by decide +kernel)) ggX1_same_X1_isHold
theorem dX1_same_0 : decode cX1_same 0 = .ok (.iload_n 1, 1) := by decide +kernel
theorem dX1_same_1 : decode cX1_same 1 = .ok (.invokestatic 80, 3) := by decide +kernel
theorem dX1_same_4 : decode cX1_same 4 = .ok (.ifCond .eq 10, 3) := by decide +kernel
theorem dX1_same_7 : decode cX1_same 7 = .ok (.iload_n 2, 1) := by decide +kernel
theorem dX1_same_8 : decode cX1_same 8 = .ok (.invokestatic 80, 3) := by decide +kernel
theorem dX1_same_11 : decode cX1_same 11 = .ok (.ifCond .ne 6, 3) := by decide +kernel
theorem dX1_same_14 : decode cX1_same 14 = .ok (.bipush (-2), 2) := by decide +kernel
theorem dX1_same_16 : decode cX1_same 16 = .ok (.ireturn, 1) := by decide +kernel
theorem dX1_same_17 : decode cX1_same 17 = .ok (.iconst 1, 1) := by decide +kernel
theorem dX1_same_18 : decode cX1_same 18 = .ok (.istore_n 3, 1) := by decide +kernel
theorem dX1_same_19 : decode cX1_same 19 = .ok (.iconst 0, 1) := by decide +kernel
theorem dX1_same_20 : decode cX1_same 20 = .ok (.istore 4, 2) := by decide +kernel
theorem dX1_same_22 : decode cX1_same 22 = .ok (.iload 4, 2) := by decide +kernel
theorem dX1_same_24 : decode cX1_same 24 = .ok (.bipush 12, 2) := by decide +kernel
theorem dX1_same_26 : decode cX1_same 26 = .ok (.if_icmp .ge 47, 3) := by decide +kernel
theorem dX1_same_29 : decode cX1_same 29 = .ok (.iload_n 3, 1) := by decide +kernel
theorem dX1_same_30 : decode cX1_same 30 = .ok (.ifCond .eq 35, 3) := by decide +kernel
theorem dX1_same_33 : decode cX1_same 33 = .ok (.aload_n 0, 1) := by decide +kernel
theorem dX1_same_34 : decode cX1_same 34 = .ok (.getfield 13, 3) := by decide +kernel
theorem dX1_same_37 : decode cX1_same 37 = .ok (.bipush 12, 2) := by decide +kernel
theorem dX1_same_39 : decode cX1_same 39 = .ok (.iload_n 1, 1) := by decide +kernel
theorem dX1_same_40 : decode cX1_same 40 = .ok (.imul, 1) := by decide +kernel
theorem dX1_same_41 : decode cX1_same 41 = .ok (.iload 4, 2) := by decide +kernel
theorem dX1_same_43 : decode cX1_same 43 = .ok (.iadd, 1) := by decide +kernel
theorem dX1_same_44 : decode cX1_same 44 = .ok (.laload, 1) := by decide +kernel
theorem dX1_same_45 : decode cX1_same 45 = .ok (.aload_n 0, 1) := by decide +kernel
theorem dX1_same_46 : decode cX1_same 46 = .ok (.getfield 13, 3) := by decide +kernel
theorem dX1_same_49 : decode cX1_same 49 = .ok (.bipush 12, 2) := by decide +kernel
theorem dX1_same_51 : decode cX1_same 51 = .ok (.iload_n 2, 1) := by decide +kernel
theorem dX1_same_52 : decode cX1_same 52 = .ok (.imul, 1) := by decide +kernel
theorem dX1_same_53 : decode cX1_same 53 = .ok (.iload 4, 2) := by decide +kernel
theorem dX1_same_55 : decode cX1_same 55 = .ok (.iadd, 1) := by decide +kernel
theorem dX1_same_56 : decode cX1_same 56 = .ok (.laload, 1) := by decide +kernel
theorem dX1_same_57 : decode cX1_same 57 = .ok (.lcmp, 1) := by decide +kernel
theorem dX1_same_58 : decode cX1_same 58 = .ok (.ifCond .ne 7, 3) := by decide +kernel
theorem dX1_same_61 : decode cX1_same 61 = .ok (.iconst 1, 1) := by decide +kernel
theorem dX1_same_62 : decode cX1_same 62 = .ok (.goto 4, 3) := by decide +kernel
theorem dX1_same_65 : decode cX1_same 65 = .ok (.iconst 0, 1) := by decide +kernel
theorem dX1_same_66 : decode cX1_same 66 = .ok (.istore_n 3, 1) := by decide +kernel
theorem dX1_same_67 : decode cX1_same 67 = .ok (.iinc 4 1, 3) := by decide +kernel
theorem dX1_same_70 : decode cX1_same 70 = .ok (.goto (-48), 3) := by decide +kernel
theorem dX1_same_73 : decode cX1_same 73 = .ok (.iload_n 3, 1) := by decide +kernel
theorem dX1_same_74 : decode cX1_same 74 = .ok (.ifCond .eq 7, 3) := by decide +kernel
theorem dX1_same_77 : decode cX1_same 77 = .ok (.iconst 1, 1) := by decide +kernel
theorem dX1_same_78 : decode cX1_same 78 = .ok (.goto 4, 3) := by decide +kernel
theorem dX1_same_81 : decode cX1_same 81 = .ok (.iconst 0, 1) := by decide +kernel
theorem dX1_same_82 : decode cX1_same 82 = .ok (.ireturn, 1) := by decide +kernel
set_option maxRecDepth 20000 in
theorem ggX1_size_X1_isHold : GoodIn wsX1_size wsX1_isHold := goodIn_r _ [9, 10, 11, 12, 8, 13] (by decide +kernel) (by decide +kernel)
set_option maxRecDepth 20000 in
theorem gX1_size_X1_isHold : GoodIn wsX1_size (va_wsS RX1 80 yX1_isHold wsX1_isHold) := goodIn_app (goodIn_of _ (by decide +kernel)) ggX1_size_X1_isHold
set_option maxRecDepth 20000 in
theorem ggX1_size_X1_turnOver : GoodIn wsX1_size wsX1_turnOver := goodIn_r _ [17, 5, 4, 2, 18, 19, 20, 21, 8, 22, 23, 24, 25, 26, 27, 28, 29, 30, 35, 36, 37, 38, 39, 40, 41, 42, 43, 44, 45] (by decide +kernel) (by decide +kernel)
set_option maxRecDepth 20000 in
theorem gX1_size_X1_turnOver : GoodIn wsX1_size (wsV RX1 102 RX1 yX1_turnOver wsX1_turnOver) := goodIn_app (goodIn_of _ (by decide +kernel)) ggX1_size_X1_turnOver
set_option maxRecDepth 20000 in
theorem ggX1_size_X1_times : GoodIn wsX1_size wsX1_times := goodIn_r _ [34, 5, 4, 18, 19, 20, 21, 8, 22, 26, 27, 28, 29, 30, 35, 36, 37, 38, 39, 40, 41, 42, 43, 44, 45] (by decide +kernel) (by decide +kernel)
set_option maxRecDepth 20000 in
theorem gX1_size_X1_times : GoodIn wsX1_size (wsV RX1 98 RX1 yX1_times wsX1_times) := goodIn_app (goodIn_of _ (by decide +kernel)) ggX1_size_X1_times
theorem dX1_size_0 : decode cX1_size 0 = .ok (.iload_n 1, 1) := by decide +kernel
theorem dX1_size_1 : decode cX1_size 1 = .ok (.invokestatic 80, 3) := by decide +kernel
theorem dX1_size_4 : decode cX1_size 4 = .ok (.ifCond .ne 7, 3) := by decide +kernel
theorem dX1_size_7 : decode cX1_size 7 = .ok (.ldc2_w 107, 3) := by decide +kernel
theorem dX1_size_10 : decode cX1_size 10 = .ok (.lreturn, 1) := by decide +kernel
theorem dX1_size_11 : decode cX1_size 11 = .ok (.aload_n 0, 1) := by decide +kernel
theorem dX1_size_12 : decode cX1_size 12 = .ok (.iload_n 1, 1) := by decide +kernel
theorem dX1_size_13 : decode cX1_size 13 = .ok (.aload_n 0, 1) := by decide +kernel
theorem dX1_size_14 : decode cX1_size 14 = .ok (.getfield 52, 3) := by decide +kernel
theorem dX1_size_17 : decode cX1_size 17 = .ok (.iconst 1, 1) := by decide +kernel
theorem dX1_size_18 : decode cX1_size 18 = .ok (.if_icmp .ne 7, 3) := by decide +kernel
theorem dX1_size_21 : decode cX1_size 21 = .ok (.iconst 1, 1) := by decide +kernel
theorem dX1_size_22 : decode cX1_size 22 = .ok (.goto 9, 3) := by decide +kernel
theorem dX1_size_25 : decode cX1_size 25 = .ok (.aload_n 0, 1) := by decide +kernel
theorem dX1_size_26 : decode cX1_size 26 = .ok (.getfield 52, 3) := by decide +kernel
theorem dX1_size_29 : decode cX1_size 29 = .ok (.iconst 1, 1) := by decide +kernel
theorem dX1_size_30 : decode cX1_size 30 = .ok (.isub, 1) := by decide +kernel
theorem dX1_size_31 : decode cX1_size 31 = .ok (.invokevirtual 102, 3) := by decide +kernel
theorem dX1_size_34 : decode cX1_size 34 = .ok (.iconst 0, 1) := by decide +kernel
theorem dX1_size_35 : decode cX1_size 35 = .ok (.istore_n 2, 1) := by decide +kernel
theorem dX1_size_36 : decode cX1_size 36 = .ok (.iload_n 2, 1) := by decide +kernel
theorem dX1_size_37 : decode cX1_size 37 = .ok (.bipush 24, 2) := by decide +kernel
theorem dX1_size_39 : decode cX1_size 39 = .ok (.if_icmp .ge 21, 3) := by decide +kernel
theorem dX1_size_42 : decode cX1_size 42 = .ok (.aload_n 0, 1) := by decide +kernel
theorem dX1_size_43 : decode cX1_size 43 = .ok (.getfield 23, 3) := by decide +kernel
theorem dX1_size_46 : decode cX1_size 46 = .ok (.iload_n 2, 1) := by decide +kernel
theorem dX1_size_47 : decode cX1_size 47 = .ok (.aload_n 0, 1) := by decide +kernel
theorem dX1_size_48 : decode cX1_size 48 = .ok (.getfield 20, 3) := by decide +kernel
theorem dX1_size_51 : decode cX1_size 51 = .ok (.iload_n 2, 1) := by decide +kernel
theorem dX1_size_52 : decode cX1_size 52 = .ok (.laload, 1) := by decide +kernel
theorem dX1_size_53 : decode cX1_size 53 = .ok (.lastore, 1) := by decide +kernel
theorem dX1_size_54 : decode cX1_size 54 = .ok (.iinc 2 1, 3) := by decide +kernel
theorem dX1_size_57 : decode cX1_size 57 = .ok (.goto (-21), 3) := by decide +kernel
theorem dX1_size_60 : decode cX1_size 60 = .ok (.aload_n 0, 1) := by decide +kernel
theorem dX1_size_61 : decode cX1_size 61 = .ok (.iload_n 1, 1) := by decide +kernel
theorem dX1_size_62 : decode cX1_size 62 = .ok (.aload_n 0, 1) := by decide +kernel
theorem dX1_size_63 : decode cX1_size 63 = .ok (.getfield 23, 3) := by decide +kernel
theorem dX1_size_66 : decode cX1_size 66 = .ok (.iconst 0, 1) := by decide +kernel
theorem dX1_size_67 : decode cX1_size 67 = .ok (.invokevirtual 98, 3) := by decide +kernel
theorem dX1_size_70 : decode cX1_size 70 = .ok (.iconst 1, 1) := by decide +kernel
theorem dX1_size_71 : decode cX1_size 71 = .ok (.istore_n 2, 1) := by decide +kernel
theorem dX1_size_72 : decode cX1_size 72 = .ok (.iconst 1, 1) := by decide +kernel
theorem dX1_size_73 : decode cX1_size 73 = .ok (.istore_n 3, 1) := by decide +kernel
theorem dX1_size_74 : decode cX1_size 74 = .ok (.iload_n 3, 1) := by decide +kernel
theorem dX1_size_75 : decode cX1_size 75 = .ok (.aload_n 0, 1) := by decide +kernel
theorem dX1_size_76 : decode cX1_size 76 = .ok (.getfield 55, 3) := by decide +kernel
theorem dX1_size_79 : decode cX1_size 79 = .ok (.if_icmp .ge 30, 3) := by decide +kernel
theorem dX1_size_82 : decode cX1_size 82 = .ok (.iload_n 2, 1) := by decide +kernel
theorem dX1_size_83 : decode cX1_size 83 = .ok (.ifCond .eq 18, 3) := by decide +kernel
theorem dX1_size_86 : decode cX1_size 86 = .ok (.aload_n 0, 1) := by decide +kernel
theorem dX1_size_87 : decode cX1_size 87 = .ok (.getfield 20, 3) := by decide +kernel
theorem dX1_size_90 : decode cX1_size 90 = .ok (.iload_n 3, 1) := by decide +kernel
theorem dX1_size_91 : decode cX1_size 91 = .ok (.laload, 1) := by decide +kernel
theorem dX1_size_92 : decode cX1_size 92 = .ok (.lconst 0, 1) := by decide +kernel
theorem dX1_size_93 : decode cX1_size 93 = .ok (.lcmp, 1) := by decide +kernel
theorem dX1_size_94 : decode cX1_size 94 = .ok (.ifCond .ne 7, 3) := by decide +kernel
theorem dX1_size_97 : decode cX1_size 97 = .ok (.iconst 1, 1) := by decide +kernel
theorem dX1_size_98 : decode cX1_size 98 = .ok (.goto 4, 3) := by decide +kernel
theorem dX1_size_101 : decode cX1_size 101 = .ok (.iconst 0, 1) := by decide +kernel
theorem dX1_size_102 : decode cX1_size 102 = .ok (.istore_n 2, 1) := by decide +kernel
theorem dX1_size_103 : decode cX1_size 103 = .ok (.iinc 3 1, 3) := by decide +kernel
theorem dX1_size_106 : decode cX1_size 106 = .ok (.goto (-32), 3) := by decide +kernel
theorem dX1_size_109 : decode cX1_size 109 = .ok (.iload_n 2, 1) := by decide +kernel
theorem dX1_size_110 : decode cX1_size 110 = .ok (.ifCond .eq 12, 3) := by decide +kernel
theorem dX1_size_113 : decode cX1_size 113 = .ok (.aload_n 0, 1) := by decide +kernel
theorem dX1_size_114 : decode cX1_size 114 = .ok (.getfield 20, 3) := by decide +kernel
theorem dX1_size_117 : decode cX1_size 117 = .ok (.iconst 0, 1) := by decide +kernel
theorem dX1_size_118 : decode cX1_size 118 = .ok (.laload, 1) := by decide +kernel
theorem dX1_size_119 : decode cX1_size 119 = .ok (.goto 6, 3) := by decide +kernel
theorem dX1_size_122 : decode cX1_size 122 = .ok (.ldc2_w 107, 3) := by decide +kernel
theorem dX1_size_125 : decode cX1_size 125 = .ok (.lreturn, 1) := by decide +kernel
theorem dX1_power_0 : decode cX1_power 0 = .ok (.iconst 1, 1) := by decide +kernel
theorem dX1_power_1 : decode cX1_power 1 = .ok (.istore_n 2, 1) := by decide +kernel
theorem dX1_power_2 : decode cX1_power 2 = .ok (.iconst 0, 1) := by decide +kernel
theorem dX1_power_3 : decode cX1_power 3 = .ok (.istore_n 3, 1) := by decide +kernel
theorem dX1_power_4 : decode cX1_power 4 = .ok (.iload_n 3, 1) := by decide +kernel
theorem dX1_power_5 : decode cX1_power 5 = .ok (.aload_n 0, 1) := by decide +kernel
theorem dX1_power_6 : decode cX1_power 6 = .ok (.getfield 52, 3) := by decide +kernel
theorem dX1_power_9 : decode cX1_power 9 = .ok (.if_icmp .ge 18, 3) := by decide +kernel
theorem dX1_power_12 : decode cX1_power 12 = .ok (.iload_n 2, 1) := by decide +kernel
theorem dX1_power_13 : decode cX1_power 13 = .ok (.iload_n 1, 1) := by decide +kernel
theorem dX1_power_14 : decode cX1_power 14 = .ok (.imul, 1) := by decide +kernel
theorem dX1_power_15 : decode cX1_power 15 = .ok (.aload_n 0, 1) := by decide +kernel
theorem dX1_power_16 : decode cX1_power 16 = .ok (.getfield 42, 3) := by decide +kernel
theorem dX1_power_19 : decode cX1_power 19 = .ok (.irem, 1) := by decide +kernel
theorem dX1_power_20 : decode cX1_power 20 = .ok (.istore_n 2, 1) := by decide +kernel
theorem dX1_power_21 : decode cX1_power 21 = .ok (.iinc 3 1, 3) := by decide +kernel
theorem dX1_power_24 : decode cX1_power 24 = .ok (.goto (-20), 3) := by decide +kernel
theorem dX1_power_27 : decode cX1_power 27 = .ok (.iload_n 2, 1) := by decide +kernel
theorem dX1_power_28 : decode cX1_power 28 = .ok (.ireturn, 1) := by decide +kernel
set_option maxRecDepth 20000 in
theorem ggX1_solutions_X1_rem : GoodIn wsX1_solutions wsX1_rem := goodIn_r _ [5] (by decide +kernel) (by decide +kernel)
set_option maxRecDepth 20000 in
theorem gX1_solutions_X1_rem : GoodIn wsX1_solutions (va_wsS RX1 68 yX1_rem wsX1_rem) := goodIn_app (goodIn_of _ (by decide +kernel)) ggX1_solutions_X1_rem
set_option maxRecDepth 20000 in
theorem ggX1_solutions_X1_power : GoodIn wsX1_solutions wsX1_power := goodIn_r _ [9, 10, 1, 11, 12, 13, 14, 15, 16, 17, 18, 19, 20, 21] (by decide +kernel) (by decide +kernel)
set_option maxRecDepth 20000 in
theorem gX1_solutions_X1_power : GoodIn wsX1_solutions (wsV RX1 109 RX1 yX1_power wsX1_power) := goodIn_app (goodIn_of _ (by decide +kernel)) ggX1_solutions_X1_power
theorem dX1_solutions_0 : decode cX1_solutions 0 = .ok (.iconst 0, 1) := by decide +kernel
theorem dX1_solutions_1 : decode cX1_solutions 1 = .ok (.istore 4, 2) := by decide +kernel
theorem dX1_solutions_3 : decode cX1_solutions 3 = .ok (.iconst 0, 1) := by decide +kernel
theorem dX1_solutions_4 : decode cX1_solutions 4 = .ok (.istore 5, 2) := by decide +kernel
theorem dX1_solutions_6 : decode cX1_solutions 6 = .ok (.iload 5, 2) := by decide +kernel
theorem dX1_solutions_8 : decode cX1_solutions 8 = .ok (.aload_n 0, 1) := by decide +kernel
theorem dX1_solutions_9 : decode cX1_solutions 9 = .ok (.getfield 42, 3) := by decide +kernel
theorem dX1_solutions_12 : decode cX1_solutions 12 = .ok (.if_icmp .ge 91, 3) := by decide +kernel
theorem dX1_solutions_15 : decode cX1_solutions 15 = .ok (.iconst 0, 1) := by decide +kernel
theorem dX1_solutions_16 : decode cX1_solutions 16 = .ok (.istore 6, 2) := by decide +kernel
theorem dX1_solutions_18 : decode cX1_solutions 18 = .ok (.iload 6, 2) := by decide +kernel
theorem dX1_solutions_20 : decode cX1_solutions 20 = .ok (.aload_n 0, 1) := by decide +kernel
theorem dX1_solutions_21 : decode cX1_solutions 21 = .ok (.getfield 42, 3) := by decide +kernel
theorem dX1_solutions_24 : decode cX1_solutions 24 = .ok (.if_icmp .ge 73, 3) := by decide +kernel
theorem dX1_solutions_27 : decode cX1_solutions 27 = .ok (.iload_n 1, 1) := by decide +kernel
theorem dX1_solutions_28 : decode cX1_solutions 28 = .ok (.i2l, 1) := by decide +kernel
theorem dX1_solutions_29 : decode cX1_solutions 29 = .ok (.aload_n 0, 1) := by decide +kernel
theorem dX1_solutions_30 : decode cX1_solutions 30 = .ok (.getfield 42, 3) := by decide +kernel
theorem dX1_solutions_33 : decode cX1_solutions 33 = .ok (.invokestatic 68, 3) := by decide +kernel
theorem dX1_solutions_36 : decode cX1_solutions 36 = .ok (.aload_n 0, 1) := by decide +kernel
theorem dX1_solutions_37 : decode cX1_solutions 37 = .ok (.iload 5, 2) := by decide +kernel
theorem dX1_solutions_39 : decode cX1_solutions 39 = .ok (.invokevirtual 109, 3) := by decide +kernel
theorem dX1_solutions_42 : decode cX1_solutions 42 = .ok (.imul, 1) := by decide +kernel
theorem dX1_solutions_43 : decode cX1_solutions 43 = .ok (.iload_n 2, 1) := by decide +kernel
theorem dX1_solutions_44 : decode cX1_solutions 44 = .ok (.i2l, 1) := by decide +kernel
theorem dX1_solutions_45 : decode cX1_solutions 45 = .ok (.aload_n 0, 1) := by decide +kernel
theorem dX1_solutions_46 : decode cX1_solutions 46 = .ok (.getfield 42, 3) := by decide +kernel
theorem dX1_solutions_49 : decode cX1_solutions 49 = .ok (.invokestatic 68, 3) := by decide +kernel
theorem dX1_solutions_52 : decode cX1_solutions 52 = .ok (.aload_n 0, 1) := by decide +kernel
theorem dX1_solutions_53 : decode cX1_solutions 53 = .ok (.iload 6, 2) := by decide +kernel
theorem dX1_solutions_55 : decode cX1_solutions 55 = .ok (.invokevirtual 109, 3) := by decide +kernel
theorem dX1_solutions_58 : decode cX1_solutions 58 = .ok (.imul, 1) := by decide +kernel
theorem dX1_solutions_59 : decode cX1_solutions 59 = .ok (.iadd, 1) := by decide +kernel
theorem dX1_solutions_60 : decode cX1_solutions 60 = .ok (.istore 7, 2) := by decide +kernel
theorem dX1_solutions_62 : decode cX1_solutions 62 = .ok (.iload 4, 2) := by decide +kernel
theorem dX1_solutions_64 : decode cX1_solutions 64 = .ok (.iload 7, 2) := by decide +kernel
theorem dX1_solutions_66 : decode cX1_solutions 66 = .ok (.aload_n 0, 1) := by decide +kernel
theorem dX1_solutions_67 : decode cX1_solutions 67 = .ok (.getfield 42, 3) := by decide +kernel
theorem dX1_solutions_70 : decode cX1_solutions 70 = .ok (.irem, 1) := by decide +kernel
theorem dX1_solutions_71 : decode cX1_solutions 71 = .ok (.iload_n 3, 1) := by decide +kernel
theorem dX1_solutions_72 : decode cX1_solutions 72 = .ok (.i2l, 1) := by decide +kernel
theorem dX1_solutions_73 : decode cX1_solutions 73 = .ok (.aload_n 0, 1) := by decide +kernel
theorem dX1_solutions_74 : decode cX1_solutions 74 = .ok (.getfield 42, 3) := by decide +kernel
theorem dX1_solutions_77 : decode cX1_solutions 77 = .ok (.invokestatic 68, 3) := by decide +kernel
theorem dX1_solutions_80 : decode cX1_solutions 80 = .ok (.if_icmp .ne 7, 3) := by decide +kernel
theorem dX1_solutions_83 : decode cX1_solutions 83 = .ok (.iconst 1, 1) := by decide +kernel
theorem dX1_solutions_84 : decode cX1_solutions 84 = .ok (.goto 4, 3) := by decide +kernel
theorem dX1_solutions_87 : decode cX1_solutions 87 = .ok (.iconst 0, 1) := by decide +kernel
theorem dX1_solutions_88 : decode cX1_solutions 88 = .ok (.iadd, 1) := by decide +kernel
theorem dX1_solutions_89 : decode cX1_solutions 89 = .ok (.istore 4, 2) := by decide +kernel
theorem dX1_solutions_91 : decode cX1_solutions 91 = .ok (.iinc 6 1, 3) := by decide +kernel
theorem dX1_solutions_94 : decode cX1_solutions 94 = .ok (.goto (-76), 3) := by decide +kernel
theorem dX1_solutions_97 : decode cX1_solutions 97 = .ok (.iinc 5 1, 3) := by decide +kernel
theorem dX1_solutions_100 : decode cX1_solutions 100 = .ok (.goto (-94), 3) := by decide +kernel
theorem dX1_solutions_103 : decode cX1_solutions 103 = .ok (.iload 4, 2) := by decide +kernel
theorem dX1_solutions_105 : decode cX1_solutions 105 = .ok (.ireturn, 1) := by decide +kernel
set_option maxRecDepth 20000 in
theorem ggX1_rows_X1_in : GoodIn wsX1_rows wsX1_in := goodIn_r _ [9] (by decide +kernel) (by decide +kernel)
set_option maxRecDepth 20000 in
theorem gX1_rows_X1_in : GoodIn wsX1_rows (va_wsS RX1 38 yX1_in wsX1_in) := goodIn_app (goodIn_of _ (by decide +kernel)) ggX1_rows_X1_in
set_option maxRecDepth 20000 in
theorem ggX1_rows_X1_classOf : GoodIn wsX1_rows wsX1_classOf := goodIn_r _ [13, 14, 15, 19, 20, 21, 22, 23, 24, 25, 26, 27, 28, 29] (by decide +kernel) (by decide +kernel)
set_option maxRecDepth 20000 in
theorem gX1_rows_X1_classOf : GoodIn wsX1_rows (wsV RX1 72 RX1 yX1_classOf wsX1_classOf) := goodIn_app (goodIn_of _ (by decide +kernel)) ggX1_rows_X1_classOf
set_option maxRecDepth 20000 in
theorem ggX1_rows_X1_rem : GoodIn wsX1_rows wsX1_rem := goodIn_r _ [18] (by decide +kernel) (by decide +kernel)
set_option maxRecDepth 20000 in
theorem gX1_rows_X1_rem : GoodIn wsX1_rows (va_wsS RX1 68 yX1_rem wsX1_rem) := goodIn_app (goodIn_of _ (by decide +kernel)) ggX1_rows_X1_rem
theorem dX1_rows_0 : decode cX1_rows 0 = .ok (.iload_n 1, 1) := by decide +kernel
theorem dX1_rows_1 : decode cX1_rows 1 = .ok (.i2l, 1) := by decide +kernel
theorem dX1_rows_2 : decode cX1_rows 2 = .ok (.lconst 0, 1) := by decide +kernel
theorem dX1_rows_3 : decode cX1_rows 3 = .ok (.ldc2_w 112, 3) := by decide +kernel
theorem dX1_rows_6 : decode cX1_rows 6 = .ok (.invokestatic 38, 3) := by decide +kernel
theorem dX1_rows_9 : decode cX1_rows 9 = .ok (.ifCond .ne 7, 3) := by decide +kernel
theorem dX1_rows_12 : decode cX1_rows 12 = .ok (.ldc2_w 114, 3) := by decide +kernel
theorem dX1_rows_15 : decode cX1_rows 15 = .ok (.lreturn, 1) := by decide +kernel
theorem dX1_rows_16 : decode cX1_rows 16 = .ok (.iconst 0, 1) := by decide +kernel
theorem dX1_rows_17 : decode cX1_rows 17 = .ok (.istore_n 2, 1) := by decide +kernel
theorem dX1_rows_18 : decode cX1_rows 18 = .ok (.iload_n 2, 1) := by decide +kernel
theorem dX1_rows_19 : decode cX1_rows 19 = .ok (.aload_n 0, 1) := by decide +kernel
theorem dX1_rows_20 : decode cX1_rows 20 = .ok (.getfield 42, 3) := by decide +kernel
theorem dX1_rows_23 : decode cX1_rows 23 = .ok (.if_icmp .ge 24, 3) := by decide +kernel
theorem dX1_rows_26 : decode cX1_rows 26 = .ok (.aload_n 0, 1) := by decide +kernel
theorem dX1_rows_27 : decode cX1_rows 27 = .ok (.getfield 26, 3) := by decide +kernel
theorem dX1_rows_30 : decode cX1_rows 30 = .ok (.iload_n 2, 1) := by decide +kernel
theorem dX1_rows_31 : decode cX1_rows 31 = .ok (.iload_n 2, 1) := by decide +kernel
theorem dX1_rows_32 : decode cX1_rows 32 = .ok (.ifCond .ne 7, 3) := by decide +kernel
theorem dX1_rows_35 : decode cX1_rows 35 = .ok (.lconst 1, 1) := by decide +kernel
theorem dX1_rows_36 : decode cX1_rows 36 = .ok (.goto 4, 3) := by decide +kernel
theorem dX1_rows_39 : decode cX1_rows 39 = .ok (.lconst 0, 1) := by decide +kernel
theorem dX1_rows_40 : decode cX1_rows 40 = .ok (.lastore, 1) := by decide +kernel
theorem dX1_rows_41 : decode cX1_rows 41 = .ok (.iinc 2 1, 3) := by decide +kernel
theorem dX1_rows_44 : decode cX1_rows 44 = .ok (.goto (-26), 3) := by decide +kernel
theorem dX1_rows_47 : decode cX1_rows 47 = .ok (.iconst 0, 1) := by decide +kernel
theorem dX1_rows_48 : decode cX1_rows 48 = .ok (.istore_n 2, 1) := by decide +kernel
theorem dX1_rows_49 : decode cX1_rows 49 = .ok (.iload_n 2, 1) := by decide +kernel
theorem dX1_rows_50 : decode cX1_rows 50 = .ok (.iload_n 1, 1) := by decide +kernel
theorem dX1_rows_51 : decode cX1_rows 51 = .ok (.if_icmp .ge 117, 3) := by decide +kernel
theorem dX1_rows_54 : decode cX1_rows 54 = .ok (.iconst 0, 1) := by decide +kernel
theorem dX1_rows_55 : decode cX1_rows 55 = .ok (.istore_n 3, 1) := by decide +kernel
theorem dX1_rows_56 : decode cX1_rows 56 = .ok (.iload_n 3, 1) := by decide +kernel
theorem dX1_rows_57 : decode cX1_rows 57 = .ok (.aload_n 0, 1) := by decide +kernel
theorem dX1_rows_58 : decode cX1_rows 58 = .ok (.getfield 42, 3) := by decide +kernel
theorem dX1_rows_61 : decode cX1_rows 61 = .ok (.if_icmp .ge 73, 3) := by decide +kernel
theorem dX1_rows_64 : decode cX1_rows 64 = .ok (.lconst 0, 1) := by decide +kernel
theorem dX1_rows_65 : decode cX1_rows 65 = .ok (.lstore 4, 2) := by decide +kernel
theorem dX1_rows_67 : decode cX1_rows 67 = .ok (.iconst 1, 1) := by decide +kernel
theorem dX1_rows_68 : decode cX1_rows 68 = .ok (.istore 6, 2) := by decide +kernel
theorem dX1_rows_70 : decode cX1_rows 70 = .ok (.iload 6, 2) := by decide +kernel
theorem dX1_rows_72 : decode cX1_rows 72 = .ok (.aload_n 0, 1) := by decide +kernel
theorem dX1_rows_73 : decode cX1_rows 73 = .ok (.getfield 42, 3) := by decide +kernel
theorem dX1_rows_76 : decode cX1_rows 76 = .ok (.if_icmp .ge 44, 3) := by decide +kernel
theorem dX1_rows_79 : decode cX1_rows 79 = .ok (.lload 4, 2) := by decide +kernel
theorem dX1_rows_81 : decode cX1_rows 81 = .ok (.aload_n 0, 1) := by decide +kernel
theorem dX1_rows_82 : decode cX1_rows 82 = .ok (.iload 6, 2) := by decide +kernel
theorem dX1_rows_84 : decode cX1_rows 84 = .ok (.invokevirtual 72, 3) := by decide +kernel
theorem dX1_rows_87 : decode cX1_rows 87 = .ok (.ifCond .ne 23, 3) := by decide +kernel
theorem dX1_rows_90 : decode cX1_rows 90 = .ok (.aload_n 0, 1) := by decide +kernel
theorem dX1_rows_91 : decode cX1_rows 91 = .ok (.getfield 26, 3) := by decide +kernel
theorem dX1_rows_94 : decode cX1_rows 94 = .ok (.iload_n 3, 1) := by decide +kernel
theorem dX1_rows_95 : decode cX1_rows 95 = .ok (.iload 6, 2) := by decide +kernel
theorem dX1_rows_97 : decode cX1_rows 97 = .ok (.isub, 1) := by decide +kernel
theorem dX1_rows_98 : decode cX1_rows 98 = .ok (.i2l, 1) := by decide +kernel
theorem dX1_rows_99 : decode cX1_rows 99 = .ok (.aload_n 0, 1) := by decide +kernel
theorem dX1_rows_100 : decode cX1_rows 100 = .ok (.getfield 42, 3) := by decide +kernel
theorem dX1_rows_103 : decode cX1_rows 103 = .ok (.invokestatic 68, 3) := by decide +kernel
theorem dX1_rows_106 : decode cX1_rows 106 = .ok (.laload, 1) := by decide +kernel
theorem dX1_rows_107 : decode cX1_rows 107 = .ok (.goto 4, 3) := by decide +kernel
theorem dX1_rows_110 : decode cX1_rows 110 = .ok (.lconst 0, 1) := by decide +kernel
theorem dX1_rows_111 : decode cX1_rows 111 = .ok (.ladd, 1) := by decide +kernel
theorem dX1_rows_112 : decode cX1_rows 112 = .ok (.lstore 4, 2) := by decide +kernel
theorem dX1_rows_114 : decode cX1_rows 114 = .ok (.iinc 6 1, 3) := by decide +kernel
theorem dX1_rows_117 : decode cX1_rows 117 = .ok (.goto (-47), 3) := by decide +kernel
theorem dX1_rows_120 : decode cX1_rows 120 = .ok (.aload_n 0, 1) := by decide +kernel
theorem dX1_rows_121 : decode cX1_rows 121 = .ok (.getfield 29, 3) := by decide +kernel
theorem dX1_rows_124 : decode cX1_rows 124 = .ok (.iload_n 3, 1) := by decide +kernel
theorem dX1_rows_125 : decode cX1_rows 125 = .ok (.lload 4, 2) := by decide +kernel
theorem dX1_rows_127 : decode cX1_rows 127 = .ok (.lastore, 1) := by decide +kernel
theorem dX1_rows_128 : decode cX1_rows 128 = .ok (.iinc 3 1, 3) := by decide +kernel
theorem dX1_rows_131 : decode cX1_rows 131 = .ok (.goto (-75), 3) := by decide +kernel
theorem dX1_rows_134 : decode cX1_rows 134 = .ok (.iconst 0, 1) := by decide +kernel
theorem dX1_rows_135 : decode cX1_rows 135 = .ok (.istore_n 3, 1) := by decide +kernel
theorem dX1_rows_136 : decode cX1_rows 136 = .ok (.iload_n 3, 1) := by decide +kernel
theorem dX1_rows_137 : decode cX1_rows 137 = .ok (.aload_n 0, 1) := by decide +kernel
theorem dX1_rows_138 : decode cX1_rows 138 = .ok (.getfield 42, 3) := by decide +kernel
theorem dX1_rows_141 : decode cX1_rows 141 = .ok (.if_icmp .ge 21, 3) := by decide +kernel
theorem dX1_rows_144 : decode cX1_rows 144 = .ok (.aload_n 0, 1) := by decide +kernel
theorem dX1_rows_145 : decode cX1_rows 145 = .ok (.getfield 26, 3) := by decide +kernel
theorem dX1_rows_148 : decode cX1_rows 148 = .ok (.iload_n 3, 1) := by decide +kernel
theorem dX1_rows_149 : decode cX1_rows 149 = .ok (.aload_n 0, 1) := by decide +kernel
theorem dX1_rows_150 : decode cX1_rows 150 = .ok (.getfield 29, 3) := by decide +kernel
theorem dX1_rows_153 : decode cX1_rows 153 = .ok (.iload_n 3, 1) := by decide +kernel
theorem dX1_rows_154 : decode cX1_rows 154 = .ok (.laload, 1) := by decide +kernel
theorem dX1_rows_155 : decode cX1_rows 155 = .ok (.lastore, 1) := by decide +kernel
theorem dX1_rows_156 : decode cX1_rows 156 = .ok (.iinc 3 1, 3) := by decide +kernel
theorem dX1_rows_159 : decode cX1_rows 159 = .ok (.goto (-23), 3) := by decide +kernel
theorem dX1_rows_162 : decode cX1_rows 162 = .ok (.iinc 2 1, 3) := by decide +kernel
theorem dX1_rows_165 : decode cX1_rows 165 = .ok (.goto (-116), 3) := by decide +kernel
theorem dX1_rows_168 : decode cX1_rows 168 = .ok (.aload_n 0, 1) := by decide +kernel
theorem dX1_rows_169 : decode cX1_rows 169 = .ok (.getfield 26, 3) := by decide +kernel
theorem dX1_rows_172 : decode cX1_rows 172 = .ok (.iconst 0, 1) := by decide +kernel
theorem dX1_rows_173 : decode cX1_rows 173 = .ok (.laload, 1) := by decide +kernel
theorem dX1_rows_174 : decode cX1_rows 174 = .ok (.lreturn, 1) := by decide +kernel
set_option maxRecDepth 20000 in
theorem ggX1_signOf_X1_classOf : GoodIn wsX1_signOf wsX1_classOf := goodIn_r _ [5, 6, 7, 8, 9, 10, 11, 12, 13, 14, 15, 16, 17, 18] (by decide +kernel) (by decide +kernel)
set_option maxRecDepth 20000 in
theorem gX1_signOf_X1_classOf : GoodIn wsX1_signOf (wsV RX1 72 RX1 yX1_classOf wsX1_classOf) := goodIn_app (goodIn_of _ (by decide +kernel)) ggX1_signOf_X1_classOf
theorem dX1_signOf_0 : decode cX1_signOf 0 = .ok (.iload_n 3, 1) := by decide +kernel
theorem dX1_signOf_1 : decode cX1_signOf 1 = .ok (.ifCond .ne 7, 3) := by decide +kernel
theorem dX1_signOf_4 : decode cX1_signOf 4 = .ok (.iload_n 2, 1) := by decide +kernel
theorem dX1_signOf_5 : decode cX1_signOf 5 = .ok (.goto 21, 3) := by decide +kernel
theorem dX1_signOf_8 : decode cX1_signOf 8 = .ok (.iload_n 1, 1) := by decide +kernel
theorem dX1_signOf_9 : decode cX1_signOf 9 = .ok (.aload_n 0, 1) := by decide +kernel
theorem dX1_signOf_10 : decode cX1_signOf 10 = .ok (.iload_n 3, 1) := by decide +kernel
theorem dX1_signOf_11 : decode cX1_signOf 11 = .ok (.invokevirtual 72, 3) := by decide +kernel
theorem dX1_signOf_14 : decode cX1_signOf 14 = .ok (.ishr, 1) := by decide +kernel
theorem dX1_signOf_15 : decode cX1_signOf 15 = .ok (.iconst 1, 1) := by decide +kernel
theorem dX1_signOf_16 : decode cX1_signOf 16 = .ok (.iand, 1) := by decide +kernel
theorem dX1_signOf_17 : decode cX1_signOf 17 = .ok (.iconst 1, 1) := by decide +kernel
theorem dX1_signOf_18 : decode cX1_signOf 18 = .ok (.if_icmp .ne 7, 3) := by decide +kernel
theorem dX1_signOf_21 : decode cX1_signOf 21 = .ok (.iconst 1, 1) := by decide +kernel
theorem dX1_signOf_22 : decode cX1_signOf 22 = .ok (.goto 4, 3) := by decide +kernel
theorem dX1_signOf_25 : decode cX1_signOf 25 = .ok (.iconst (-1), 1) := by decide +kernel
theorem dX1_signOf_26 : decode cX1_signOf 26 = .ok (.ireturn, 1) := by decide +kernel
set_option maxRecDepth 20000 in
theorem ggX1_overOf_X1_signOf : GoodIn wsX1_overOf wsX1_signOf := goodIn_r _ [6, 7, 8, 9, 5, 10, 11, 12, 13, 14, 15, 16, 17, 18, 19, 20, 21, 22, 23] (by decide +kernel) (by decide +kernel)
set_option maxRecDepth 20000 in
theorem gX1_overOf_X1_signOf : GoodIn wsX1_overOf (wsV RX1 116 RX1 yX1_signOf wsX1_signOf) := goodIn_app (goodIn_of _ (by decide +kernel)) ggX1_overOf_X1_signOf
theorem dX1_overOf_0 : decode cX1_overOf 0 = .ok (.iconst 0, 1) := by decide +kernel
theorem dX1_overOf_1 : decode cX1_overOf 1 = .ok (.istore 4, 2) := by decide +kernel
theorem dX1_overOf_3 : decode cX1_overOf 3 = .ok (.iconst 0, 1) := by decide +kernel
theorem dX1_overOf_4 : decode cX1_overOf 4 = .ok (.istore 5, 2) := by decide +kernel
theorem dX1_overOf_6 : decode cX1_overOf 6 = .ok (.iload 5, 2) := by decide +kernel
theorem dX1_overOf_8 : decode cX1_overOf 8 = .ok (.aload_n 0, 1) := by decide +kernel
theorem dX1_overOf_9 : decode cX1_overOf 9 = .ok (.getfield 42, 3) := by decide +kernel
theorem dX1_overOf_12 : decode cX1_overOf 12 = .ok (.if_icmp .ge 38, 3) := by decide +kernel
theorem dX1_overOf_15 : decode cX1_overOf 15 = .ok (.iload 4, 2) := by decide +kernel
theorem dX1_overOf_17 : decode cX1_overOf 17 = .ok (.aload_n 0, 1) := by decide +kernel
theorem dX1_overOf_18 : decode cX1_overOf 18 = .ok (.iload_n 1, 1) := by decide +kernel
theorem dX1_overOf_19 : decode cX1_overOf 19 = .ok (.iload_n 2, 1) := by decide +kernel
theorem dX1_overOf_20 : decode cX1_overOf 20 = .ok (.iload 5, 2) := by decide +kernel
theorem dX1_overOf_22 : decode cX1_overOf 22 = .ok (.invokevirtual 116, 3) := by decide +kernel
theorem dX1_overOf_25 : decode cX1_overOf 25 = .ok (.aload_n 0, 1) := by decide +kernel
theorem dX1_overOf_26 : decode cX1_overOf 26 = .ok (.iload_n 1, 1) := by decide +kernel
theorem dX1_overOf_27 : decode cX1_overOf 27 = .ok (.iload_n 2, 1) := by decide +kernel
theorem dX1_overOf_28 : decode cX1_overOf 28 = .ok (.iload 5, 2) := by decide +kernel
theorem dX1_overOf_30 : decode cX1_overOf 30 = .ok (.iload_n 3, 1) := by decide +kernel
theorem dX1_overOf_31 : decode cX1_overOf 31 = .ok (.iadd, 1) := by decide +kernel
theorem dX1_overOf_32 : decode cX1_overOf 32 = .ok (.aload_n 0, 1) := by decide +kernel
theorem dX1_overOf_33 : decode cX1_overOf 33 = .ok (.getfield 42, 3) := by decide +kernel
theorem dX1_overOf_36 : decode cX1_overOf 36 = .ok (.irem, 1) := by decide +kernel
theorem dX1_overOf_37 : decode cX1_overOf 37 = .ok (.invokevirtual 116, 3) := by decide +kernel
theorem dX1_overOf_40 : decode cX1_overOf 40 = .ok (.imul, 1) := by decide +kernel
theorem dX1_overOf_41 : decode cX1_overOf 41 = .ok (.iadd, 1) := by decide +kernel
theorem dX1_overOf_42 : decode cX1_overOf 42 = .ok (.istore 4, 2) := by decide +kernel
theorem dX1_overOf_44 : decode cX1_overOf 44 = .ok (.iinc 5 1, 3) := by decide +kernel
theorem dX1_overOf_47 : decode cX1_overOf 47 = .ok (.goto (-41), 3) := by decide +kernel
theorem dX1_overOf_50 : decode cX1_overOf 50 = .ok (.iload 4, 2) := by decide +kernel
theorem dX1_overOf_52 : decode cX1_overOf 52 = .ok (.ireturn, 1) := by decide +kernel
set_option maxRecDepth 20000 in
theorem ggX1_isSet_X1_in : GoodIn wsX1_isSet wsX1_in := goodIn_r _ [5] (by decide +kernel) (by decide +kernel)
set_option maxRecDepth 20000 in
theorem gX1_isSet_X1_in : GoodIn wsX1_isSet (va_wsS RX1 38 yX1_in wsX1_in) := goodIn_app (goodIn_of _ (by decide +kernel)) ggX1_isSet_X1_in
theorem dX1_isSet_0 : decode cX1_isSet 0 = .ok (.iload_n 1, 1) := by decide +kernel
theorem dX1_isSet_1 : decode cX1_isSet 1 = .ok (.i2l, 1) := by decide +kernel
theorem dX1_isSet_2 : decode cX1_isSet 2 = .ok (.lconst 0, 1) := by decide +kernel
theorem dX1_isSet_3 : decode cX1_isSet 3 = .ok (.iconst 1, 1) := by decide +kernel
theorem dX1_isSet_4 : decode cX1_isSet 4 = .ok (.aload_n 0, 1) := by decide +kernel
theorem dX1_isSet_5 : decode cX1_isSet 5 = .ok (.getfield 52, 3) := by decide +kernel
theorem dX1_isSet_8 : decode cX1_isSet 8 = .ok (.ishl, 1) := by decide +kernel
theorem dX1_isSet_9 : decode cX1_isSet 9 = .ok (.iconst 1, 1) := by decide +kernel
theorem dX1_isSet_10 : decode cX1_isSet 10 = .ok (.isub, 1) := by decide +kernel
theorem dX1_isSet_11 : decode cX1_isSet 11 = .ok (.i2l, 1) := by decide +kernel
theorem dX1_isSet_12 : decode cX1_isSet 12 = .ok (.invokestatic 38, 3) := by decide +kernel
theorem dX1_isSet_15 : decode cX1_isSet 15 = .ok (.ireturn, 1) := by decide +kernel
theorem dX1_isSign_0 : decode cX1_isSign 0 = .ok (.iload_n 0, 1) := by decide +kernel
theorem dX1_isSign_1 : decode cX1_isSign 1 = .ok (.iconst 1, 1) := by decide +kernel
theorem dX1_isSign_2 : decode cX1_isSign 2 = .ok (.if_icmp .eq 8, 3) := by decide +kernel
theorem dX1_isSign_5 : decode cX1_isSign 5 = .ok (.iload_n 0, 1) := by decide +kernel
theorem dX1_isSign_6 : decode cX1_isSign 6 = .ok (.iconst (-1), 1) := by decide +kernel
theorem dX1_isSign_7 : decode cX1_isSign 7 = .ok (.if_icmp .ne 7, 3) := by decide +kernel
theorem dX1_isSign_10 : decode cX1_isSign 10 = .ok (.iconst 1, 1) := by decide +kernel
theorem dX1_isSign_11 : decode cX1_isSign 11 = .ok (.goto 4, 3) := by decide +kernel
theorem dX1_isSign_14 : decode cX1_isSign 14 = .ok (.iconst 0, 1) := by decide +kernel
theorem dX1_isSign_15 : decode cX1_isSign 15 = .ok (.ireturn, 1) := by decide +kernel
set_option maxRecDepth 20000 in
theorem ggX1_over_X1_isSet : GoodIn wsX1_over wsX1_isSet := goodIn_r _ [7, 8, 9, 10, 6, 11, 31, 32, 33, 34, 35, 36, 37, 38, 39, 40, 41] (by decide +kernel) (by decide +kernel)
set_option maxRecDepth 20000 in
theorem gX1_over_X1_isSet : GoodIn wsX1_over (wsV RX1 120 RX1 yX1_isSet wsX1_isSet) := goodIn_app (goodIn_of _ (by decide +kernel)) ggX1_over_X1_isSet
set_option maxRecDepth 20000 in
theorem ggX1_over_X1_isSign : GoodIn wsX1_over wsX1_isSign := goodIn_r _ [14] (by decide +kernel) (by decide +kernel)
set_option maxRecDepth 20000 in
theorem gX1_over_X1_isSign : GoodIn wsX1_over (va_wsS RX1 123 yX1_isSign wsX1_isSign) := goodIn_app (goodIn_of _ (by decide +kernel)) ggX1_over_X1_isSign
set_option maxRecDepth 20000 in
theorem ggX1_over_X1_rem : GoodIn wsX1_over wsX1_rem := goodIn_r _ [17] (by decide +kernel) (by decide +kernel)
set_option maxRecDepth 20000 in
theorem gX1_over_X1_rem : GoodIn wsX1_over (va_wsS RX1 68 yX1_rem wsX1_rem) := goodIn_app (goodIn_of _ (by decide +kernel)) ggX1_over_X1_rem
set_option maxRecDepth 20000 in
theorem ggX1_over_X1_overOf : GoodIn wsX1_over wsX1_overOf := goodIn_r _ [21, 2, 22, 23, 24, 6, 25, 26, 27, 28, 29, 30, 8, 31, 32, 33, 34, 35, 36, 37, 38, 39, 40, 41] (by decide +kernel) (by decide +kernel)
set_option maxRecDepth 20000 in
theorem gX1_over_X1_overOf : GoodIn wsX1_over (wsV RX1 126 RX1 yX1_overOf wsX1_overOf) := goodIn_app (goodIn_of _ (by decide +kernel)) ggX1_over_X1_overOf
theorem dX1_over_0 : decode cX1_over 0 = .ok (.aload_n 0, 1) := by decide +kernel
theorem dX1_over_1 : decode cX1_over 1 = .ok (.iload_n 1, 1) := by decide +kernel
theorem dX1_over_2 : decode cX1_over 2 = .ok (.invokevirtual 120, 3) := by decide +kernel
theorem dX1_over_5 : decode cX1_over 5 = .ok (.ifCond .ne 6, 3) := by decide +kernel
theorem dX1_over_8 : decode cX1_over 8 = .ok (.ldc 106, 2) := by decide +kernel
theorem dX1_over_10 : decode cX1_over 10 = .ok (.ireturn, 1) := by decide +kernel
theorem dX1_over_11 : decode cX1_over 11 = .ok (.iload_n 2, 1) := by decide +kernel
theorem dX1_over_12 : decode cX1_over 12 = .ok (.invokestatic 123, 3) := by decide +kernel
theorem dX1_over_15 : decode cX1_over 15 = .ok (.ifCond .eq 21, 3) := by decide +kernel
theorem dX1_over_18 : decode cX1_over 18 = .ok (.aload_n 0, 1) := by decide +kernel
theorem dX1_over_19 : decode cX1_over 19 = .ok (.iload_n 1, 1) := by decide +kernel
theorem dX1_over_20 : decode cX1_over 20 = .ok (.iload_n 2, 1) := by decide +kernel
theorem dX1_over_21 : decode cX1_over 21 = .ok (.iload_n 3, 1) := by decide +kernel
theorem dX1_over_22 : decode cX1_over 22 = .ok (.i2l, 1) := by decide +kernel
theorem dX1_over_23 : decode cX1_over 23 = .ok (.aload_n 0, 1) := by decide +kernel
theorem dX1_over_24 : decode cX1_over 24 = .ok (.getfield 42, 3) := by decide +kernel
theorem dX1_over_27 : decode cX1_over 27 = .ok (.invokestatic 68, 3) := by decide +kernel
theorem dX1_over_30 : decode cX1_over 30 = .ok (.invokevirtual 126, 3) := by decide +kernel
theorem dX1_over_33 : decode cX1_over 33 = .ok (.goto 5, 3) := by decide +kernel
theorem dX1_over_36 : decode cX1_over 36 = .ok (.ldc 106, 2) := by decide +kernel
theorem dX1_over_38 : decode cX1_over 38 = .ok (.ireturn, 1) := by decide +kernel
set_option maxRecDepth 20000 in
theorem ggX1_peak_X1_isSet : GoodIn wsX1_peak wsX1_isSet := goodIn_r _ [6, 7, 8, 9, 5, 10, 27, 28, 29, 30, 31, 32, 33, 34, 35, 36, 37] (by decide +kernel) (by decide +kernel)
set_option maxRecDepth 20000 in
theorem gX1_peak_X1_isSet : GoodIn wsX1_peak (wsV RX1 120 RX1 yX1_isSet wsX1_isSet) := goodIn_app (goodIn_of _ (by decide +kernel)) ggX1_peak_X1_isSet
set_option maxRecDepth 20000 in
theorem ggX1_peak_X1_isSign : GoodIn wsX1_peak wsX1_isSign := goodIn_r _ [13] (by decide +kernel) (by decide +kernel)
set_option maxRecDepth 20000 in
theorem gX1_peak_X1_isSign : GoodIn wsX1_peak (va_wsS RX1 123 yX1_isSign wsX1_isSign) := goodIn_app (goodIn_of _ (by decide +kernel)) ggX1_peak_X1_isSign
set_option maxRecDepth 20000 in
theorem ggX1_peak_X1_overOf : GoodIn wsX1_peak wsX1_overOf := goodIn_r _ [17, 1, 18, 19, 20, 5, 21, 22, 23, 24, 25, 26, 7, 27, 28, 29, 30, 31, 32, 33, 34, 35, 36, 37] (by decide +kernel) (by decide +kernel)
set_option maxRecDepth 20000 in
theorem gX1_peak_X1_overOf : GoodIn wsX1_peak (wsV RX1 126 RX1 yX1_overOf wsX1_overOf) := goodIn_app (goodIn_of _ (by decide +kernel)) ggX1_peak_X1_overOf
theorem dX1_peak_0 : decode cX1_peak 0 = .ok (.aload_n 0, 1) := by decide +kernel
theorem dX1_peak_1 : decode cX1_peak 1 = .ok (.iload_n 1, 1) := by decide +kernel
theorem dX1_peak_2 : decode cX1_peak 2 = .ok (.invokevirtual 120, 3) := by decide +kernel
theorem dX1_peak_5 : decode cX1_peak 5 = .ok (.ifCond .ne 6, 3) := by decide +kernel
theorem dX1_peak_8 : decode cX1_peak 8 = .ok (.bipush (-2), 2) := by decide +kernel
theorem dX1_peak_10 : decode cX1_peak 10 = .ok (.ireturn, 1) := by decide +kernel
theorem dX1_peak_11 : decode cX1_peak 11 = .ok (.iload_n 2, 1) := by decide +kernel
theorem dX1_peak_12 : decode cX1_peak 12 = .ok (.invokestatic 123, 3) := by decide +kernel
theorem dX1_peak_15 : decode cX1_peak 15 = .ok (.ifCond .ne 6, 3) := by decide +kernel
theorem dX1_peak_18 : decode cX1_peak 18 = .ok (.bipush (-3), 2) := by decide +kernel
theorem dX1_peak_20 : decode cX1_peak 20 = .ok (.ireturn, 1) := by decide +kernel
theorem dX1_peak_21 : decode cX1_peak 21 = .ok (.iconst 0, 1) := by decide +kernel
theorem dX1_peak_22 : decode cX1_peak 22 = .ok (.istore_n 3, 1) := by decide +kernel
theorem dX1_peak_23 : decode cX1_peak 23 = .ok (.iconst 1, 1) := by decide +kernel
theorem dX1_peak_24 : decode cX1_peak 24 = .ok (.istore 4, 2) := by decide +kernel
theorem dX1_peak_26 : decode cX1_peak 26 = .ok (.iload 4, 2) := by decide +kernel
theorem dX1_peak_28 : decode cX1_peak 28 = .ok (.aload_n 0, 1) := by decide +kernel
theorem dX1_peak_29 : decode cX1_peak 29 = .ok (.getfield 42, 3) := by decide +kernel
theorem dX1_peak_32 : decode cX1_peak 32 = .ok (.if_icmp .ge 47, 3) := by decide +kernel
theorem dX1_peak_35 : decode cX1_peak 35 = .ok (.aload_n 0, 1) := by decide +kernel
theorem dX1_peak_36 : decode cX1_peak 36 = .ok (.iload_n 1, 1) := by decide +kernel
theorem dX1_peak_37 : decode cX1_peak 37 = .ok (.iload_n 2, 1) := by decide +kernel
theorem dX1_peak_38 : decode cX1_peak 38 = .ok (.iload 4, 2) := by decide +kernel
theorem dX1_peak_40 : decode cX1_peak 40 = .ok (.invokevirtual 126, 3) := by decide +kernel
theorem dX1_peak_43 : decode cX1_peak 43 = .ok (.istore 5, 2) := by decide +kernel
theorem dX1_peak_45 : decode cX1_peak 45 = .ok (.iload 5, 2) := by decide +kernel
theorem dX1_peak_47 : decode cX1_peak 47 = .ok (.ifCond .ge 9, 3) := by decide +kernel
theorem dX1_peak_50 : decode cX1_peak 50 = .ok (.iload 5, 2) := by decide +kernel
theorem dX1_peak_52 : decode cX1_peak 52 = .ok (.ineg, 1) := by decide +kernel
theorem dX1_peak_53 : decode cX1_peak 53 = .ok (.goto 5, 3) := by decide +kernel
theorem dX1_peak_56 : decode cX1_peak 56 = .ok (.iload 5, 2) := by decide +kernel
theorem dX1_peak_58 : decode cX1_peak 58 = .ok (.istore 5, 2) := by decide +kernel
theorem dX1_peak_60 : decode cX1_peak 60 = .ok (.iload 5, 2) := by decide +kernel
theorem dX1_peak_62 : decode cX1_peak 62 = .ok (.iload_n 3, 1) := by decide +kernel
theorem dX1_peak_63 : decode cX1_peak 63 = .ok (.if_icmp .le 8, 3) := by decide +kernel
theorem dX1_peak_66 : decode cX1_peak 66 = .ok (.iload 5, 2) := by decide +kernel
theorem dX1_peak_68 : decode cX1_peak 68 = .ok (.goto 4, 3) := by decide +kernel
theorem dX1_peak_71 : decode cX1_peak 71 = .ok (.iload_n 3, 1) := by decide +kernel
theorem dX1_peak_72 : decode cX1_peak 72 = .ok (.istore_n 3, 1) := by decide +kernel
theorem dX1_peak_73 : decode cX1_peak 73 = .ok (.iinc 4 1, 3) := by decide +kernel
theorem dX1_peak_76 : decode cX1_peak 76 = .ok (.goto (-50), 3) := by decide +kernel
theorem dX1_peak_79 : decode cX1_peak 79 = .ok (.iload_n 3, 1) := by decide +kernel
theorem dX1_peak_80 : decode cX1_peak 80 = .ok (.ireturn, 1) := by decide +kernel
set_option maxRecDepth 20000 in
theorem ggX1_even_X1_isSet : GoodIn wsX1_even wsX1_isSet := goodIn_r _ [6, 7, 8, 9, 5, 10, 16, 17, 18, 19, 20, 21, 22, 23, 24, 25, 26] (by decide +kernel) (by decide +kernel)
set_option maxRecDepth 20000 in
theorem gX1_even_X1_isSet : GoodIn wsX1_even (wsV RX1 120 RX1 yX1_isSet wsX1_isSet) := goodIn_app (goodIn_of _ (by decide +kernel)) ggX1_even_X1_isSet
set_option maxRecDepth 20000 in
theorem ggX1_even_X1_classOf : GoodIn wsX1_even wsX1_classOf := goodIn_r _ [14, 15, 7, 16, 17, 18, 19, 20, 21, 22, 23, 24, 25, 26] (by decide +kernel) (by decide +kernel)
set_option maxRecDepth 20000 in
theorem gX1_even_X1_classOf : GoodIn wsX1_even (wsV RX1 72 RX1 yX1_classOf wsX1_classOf) := goodIn_app (goodIn_of _ (by decide +kernel)) ggX1_even_X1_classOf
theorem dX1_even_0 : decode cX1_even 0 = .ok (.aload_n 0, 1) := by decide +kernel
theorem dX1_even_1 : decode cX1_even 1 = .ok (.iload_n 1, 1) := by decide +kernel
theorem dX1_even_2 : decode cX1_even 2 = .ok (.invokevirtual 120, 3) := by decide +kernel
theorem dX1_even_5 : decode cX1_even 5 = .ok (.ifCond .ne 6, 3) := by decide +kernel
theorem dX1_even_8 : decode cX1_even 8 = .ok (.bipush (-2), 2) := by decide +kernel
theorem dX1_even_10 : decode cX1_even 10 = .ok (.ireturn, 1) := by decide +kernel
theorem dX1_even_11 : decode cX1_even 11 = .ok (.iconst (-1), 1) := by decide +kernel
theorem dX1_even_12 : decode cX1_even 12 = .ok (.istore_n 2, 1) := by decide +kernel
theorem dX1_even_13 : decode cX1_even 13 = .ok (.iconst 1, 1) := by decide +kernel
theorem dX1_even_14 : decode cX1_even 14 = .ok (.istore_n 3, 1) := by decide +kernel
theorem dX1_even_15 : decode cX1_even 15 = .ok (.iload_n 3, 1) := by decide +kernel
theorem dX1_even_16 : decode cX1_even 16 = .ok (.aload_n 0, 1) := by decide +kernel
theorem dX1_even_17 : decode cX1_even 17 = .ok (.getfield 42, 3) := by decide +kernel
theorem dX1_even_20 : decode cX1_even 20 = .ok (.if_icmp .ge 100, 3) := by decide +kernel
theorem dX1_even_23 : decode cX1_even 23 = .ok (.iconst 0, 1) := by decide +kernel
theorem dX1_even_24 : decode cX1_even 24 = .ok (.istore 4, 2) := by decide +kernel
theorem dX1_even_26 : decode cX1_even 26 = .ok (.iconst 1, 1) := by decide +kernel
theorem dX1_even_27 : decode cX1_even 27 = .ok (.istore 5, 2) := by decide +kernel
theorem dX1_even_29 : decode cX1_even 29 = .ok (.iload 5, 2) := by decide +kernel
theorem dX1_even_31 : decode cX1_even 31 = .ok (.aload_n 0, 1) := by decide +kernel
theorem dX1_even_32 : decode cX1_even 32 = .ok (.getfield 42, 3) := by decide +kernel
theorem dX1_even_35 : decode cX1_even 35 = .ok (.if_icmp .ge 63, 3) := by decide +kernel
theorem dX1_even_38 : decode cX1_even 38 = .ok (.iload 5, 2) := by decide +kernel
theorem dX1_even_40 : decode cX1_even 40 = .ok (.iload_n 3, 1) := by decide +kernel
theorem dX1_even_41 : decode cX1_even 41 = .ok (.iadd, 1) := by decide +kernel
theorem dX1_even_42 : decode cX1_even 42 = .ok (.aload_n 0, 1) := by decide +kernel
theorem dX1_even_43 : decode cX1_even 43 = .ok (.getfield 42, 3) := by decide +kernel
theorem dX1_even_46 : decode cX1_even 46 = .ok (.irem, 1) := by decide +kernel
theorem dX1_even_47 : decode cX1_even 47 = .ok (.istore 6, 2) := by decide +kernel
theorem dX1_even_49 : decode cX1_even 49 = .ok (.iload 4, 2) := by decide +kernel
theorem dX1_even_51 : decode cX1_even 51 = .ok (.iload 6, 2) := by decide +kernel
theorem dX1_even_53 : decode cX1_even 53 = .ok (.ifCond .eq 35, 3) := by decide +kernel
theorem dX1_even_56 : decode cX1_even 56 = .ok (.iload_n 1, 1) := by decide +kernel
theorem dX1_even_57 : decode cX1_even 57 = .ok (.aload_n 0, 1) := by decide +kernel
theorem dX1_even_58 : decode cX1_even 58 = .ok (.iload 5, 2) := by decide +kernel
theorem dX1_even_60 : decode cX1_even 60 = .ok (.invokevirtual 72, 3) := by decide +kernel
theorem dX1_even_63 : decode cX1_even 63 = .ok (.ishr, 1) := by decide +kernel
theorem dX1_even_64 : decode cX1_even 64 = .ok (.iconst 1, 1) := by decide +kernel
theorem dX1_even_65 : decode cX1_even 65 = .ok (.iand, 1) := by decide +kernel
theorem dX1_even_66 : decode cX1_even 66 = .ok (.iconst 1, 1) := by decide +kernel
theorem dX1_even_67 : decode cX1_even 67 = .ok (.if_icmp .ne 21, 3) := by decide +kernel
theorem dX1_even_70 : decode cX1_even 70 = .ok (.iload_n 1, 1) := by decide +kernel
theorem dX1_even_71 : decode cX1_even 71 = .ok (.aload_n 0, 1) := by decide +kernel
theorem dX1_even_72 : decode cX1_even 72 = .ok (.iload 6, 2) := by decide +kernel
theorem dX1_even_74 : decode cX1_even 74 = .ok (.invokevirtual 72, 3) := by decide +kernel
theorem dX1_even_77 : decode cX1_even 77 = .ok (.ishr, 1) := by decide +kernel
theorem dX1_even_78 : decode cX1_even 78 = .ok (.iconst 1, 1) := by decide +kernel
theorem dX1_even_79 : decode cX1_even 79 = .ok (.iand, 1) := by decide +kernel
theorem dX1_even_80 : decode cX1_even 80 = .ok (.iconst 1, 1) := by decide +kernel
theorem dX1_even_81 : decode cX1_even 81 = .ok (.if_icmp .ne 7, 3) := by decide +kernel
theorem dX1_even_84 : decode cX1_even 84 = .ok (.iconst 1, 1) := by decide +kernel
theorem dX1_even_85 : decode cX1_even 85 = .ok (.goto 4, 3) := by decide +kernel
theorem dX1_even_88 : decode cX1_even 88 = .ok (.iconst 0, 1) := by decide +kernel
theorem dX1_even_89 : decode cX1_even 89 = .ok (.iadd, 1) := by decide +kernel
theorem dX1_even_90 : decode cX1_even 90 = .ok (.istore 4, 2) := by decide +kernel
theorem dX1_even_92 : decode cX1_even 92 = .ok (.iinc 5 1, 3) := by decide +kernel
theorem dX1_even_95 : decode cX1_even 95 = .ok (.goto (-66), 3) := by decide +kernel
theorem dX1_even_98 : decode cX1_even 98 = .ok (.iload_n 3, 1) := by decide +kernel
theorem dX1_even_99 : decode cX1_even 99 = .ok (.iconst 1, 1) := by decide +kernel
theorem dX1_even_100 : decode cX1_even 100 = .ok (.if_icmp .le 11, 3) := by decide +kernel
theorem dX1_even_103 : decode cX1_even 103 = .ok (.iload 4, 2) := by decide +kernel
theorem dX1_even_105 : decode cX1_even 105 = .ok (.iload_n 2, 1) := by decide +kernel
theorem dX1_even_106 : decode cX1_even 106 = .ok (.if_icmp .eq 5, 3) := by decide +kernel
theorem dX1_even_109 : decode cX1_even 109 = .ok (.iconst (-1), 1) := by decide +kernel
theorem dX1_even_110 : decode cX1_even 110 = .ok (.ireturn, 1) := by decide +kernel
theorem dX1_even_111 : decode cX1_even 111 = .ok (.iload 4, 2) := by decide +kernel
theorem dX1_even_113 : decode cX1_even 113 = .ok (.istore_n 2, 1) := by decide +kernel
theorem dX1_even_114 : decode cX1_even 114 = .ok (.iinc 3 1, 3) := by decide +kernel
theorem dX1_even_117 : decode cX1_even 117 = .ok (.goto (-102), 3) := by decide +kernel
theorem dX1_even_120 : decode cX1_even 120 = .ok (.iload_n 2, 1) := by decide +kernel
theorem dX1_even_121 : decode cX1_even 121 = .ok (.ireturn, 1) := by decide +kernel
set_option maxRecDepth 20000 in
theorem ggX1_classes_X1_in : GoodIn wsX1_classes wsX1_in := goodIn_r _ [6] (by decide +kernel) (by decide +kernel)
set_option maxRecDepth 20000 in
theorem gX1_classes_X1_in : GoodIn wsX1_classes (va_wsS RX1 38 yX1_in wsX1_in) := goodIn_app (goodIn_of _ (by decide +kernel)) ggX1_classes_X1_in
theorem dX1_classes_0 : decode cX1_classes 0 = .ok (.iload_n 1, 1) := by decide +kernel
theorem dX1_classes_1 : decode cX1_classes 1 = .ok (.i2l, 1) := by decide +kernel
theorem dX1_classes_2 : decode cX1_classes 2 = .ok (.lconst 0, 1) := by decide +kernel
theorem dX1_classes_3 : decode cX1_classes 3 = .ok (.lconst 1, 1) := by decide +kernel
theorem dX1_classes_4 : decode cX1_classes 4 = .ok (.invokestatic 38, 3) := by decide +kernel
theorem dX1_classes_7 : decode cX1_classes 7 = .ok (.ifCond .ne 6, 3) := by decide +kernel
theorem dX1_classes_10 : decode cX1_classes 10 = .ok (.bipush (-3), 2) := by decide +kernel
theorem dX1_classes_12 : decode cX1_classes 12 = .ok (.ireturn, 1) := by decide +kernel
theorem dX1_classes_13 : decode cX1_classes 13 = .ok (.aload_n 0, 1) := by decide +kernel
theorem dX1_classes_14 : decode cX1_classes 14 = .ok (.getfield 42, 3) := by decide +kernel
theorem dX1_classes_17 : decode cX1_classes 17 = .ok (.iconst 4, 1) := by decide +kernel
theorem dX1_classes_18 : decode cX1_classes 18 = .ok (.irem, 1) := by decide +kernel
theorem dX1_classes_19 : decode cX1_classes 19 = .ok (.iconst 3, 1) := by decide +kernel
theorem dX1_classes_20 : decode cX1_classes 20 = .ok (.if_icmp .ne 11, 3) := by decide +kernel
theorem dX1_classes_23 : decode cX1_classes 23 = .ok (.aload_n 0, 1) := by decide +kernel
theorem dX1_classes_24 : decode cX1_classes 24 = .ok (.getfield 42, 3) := by decide +kernel
theorem dX1_classes_27 : decode cX1_classes 27 = .ok (.iconst 3, 1) := by decide +kernel
theorem dX1_classes_28 : decode cX1_classes 28 = .ok (.if_icmp .ne 6, 3) := by decide +kernel
theorem dX1_classes_31 : decode cX1_classes 31 = .ok (.bipush (-4), 2) := by decide +kernel
theorem dX1_classes_33 : decode cX1_classes 33 = .ok (.ireturn, 1) := by decide +kernel
theorem dX1_classes_34 : decode cX1_classes 34 = .ok (.iconst 0, 1) := by decide +kernel
theorem dX1_classes_35 : decode cX1_classes 35 = .ok (.istore_n 2, 1) := by decide +kernel
theorem dX1_classes_36 : decode cX1_classes 36 = .ok (.iload_n 1, 1) := by decide +kernel
theorem dX1_classes_37 : decode cX1_classes 37 = .ok (.ifCond .ne 47, 3) := by decide +kernel
theorem dX1_classes_40 : decode cX1_classes 40 = .ok (.iconst 1, 1) := by decide +kernel
theorem dX1_classes_41 : decode cX1_classes 41 = .ok (.istore_n 3, 1) := by decide +kernel
theorem dX1_classes_42 : decode cX1_classes 42 = .ok (.iload_n 3, 1) := by decide +kernel
theorem dX1_classes_43 : decode cX1_classes 43 = .ok (.aload_n 0, 1) := by decide +kernel
theorem dX1_classes_44 : decode cX1_classes 44 = .ok (.getfield 42, 3) := by decide +kernel
theorem dX1_classes_47 : decode cX1_classes 47 = .ok (.if_icmp .ge 29, 3) := by decide +kernel
theorem dX1_classes_50 : decode cX1_classes 50 = .ok (.iload_n 2, 1) := by decide +kernel
theorem dX1_classes_51 : decode cX1_classes 51 = .ok (.aload_n 0, 1) := by decide +kernel
theorem dX1_classes_52 : decode cX1_classes 52 = .ok (.getfield 7, 3) := by decide +kernel
theorem dX1_classes_55 : decode cX1_classes 55 = .ok (.iload_n 3, 1) := by decide +kernel
theorem dX1_classes_56 : decode cX1_classes 56 = .ok (.iaload, 1) := by decide +kernel
theorem dX1_classes_57 : decode cX1_classes 57 = .ok (.iconst 2, 1) := by decide +kernel
theorem dX1_classes_58 : decode cX1_classes 58 = .ok (.irem, 1) := by decide +kernel
theorem dX1_classes_59 : decode cX1_classes 59 = .ok (.ifCond .ne 7, 3) := by decide +kernel
theorem dX1_classes_62 : decode cX1_classes 62 = .ok (.iload_n 3, 1) := by decide +kernel
theorem dX1_classes_63 : decode cX1_classes 63 = .ok (.goto 5, 3) := by decide +kernel
theorem dX1_classes_66 : decode cX1_classes 66 = .ok (.iload_n 3, 1) := by decide +kernel
theorem dX1_classes_67 : decode cX1_classes 67 = .ok (.ineg, 1) := by decide +kernel
theorem dX1_classes_68 : decode cX1_classes 68 = .ok (.iadd, 1) := by decide +kernel
theorem dX1_classes_69 : decode cX1_classes 69 = .ok (.istore_n 2, 1) := by decide +kernel
theorem dX1_classes_70 : decode cX1_classes 70 = .ok (.iinc 3 1, 3) := by decide +kernel
theorem dX1_classes_73 : decode cX1_classes 73 = .ok (.goto (-31), 3) := by decide +kernel
theorem dX1_classes_76 : decode cX1_classes 76 = .ok (.iload_n 2, 1) := by decide +kernel
theorem dX1_classes_77 : decode cX1_classes 77 = .ok (.ineg, 1) := by decide +kernel
theorem dX1_classes_78 : decode cX1_classes 78 = .ok (.aload_n 0, 1) := by decide +kernel
theorem dX1_classes_79 : decode cX1_classes 79 = .ok (.getfield 42, 3) := by decide +kernel
theorem dX1_classes_82 : decode cX1_classes 82 = .ok (.idiv, 1) := by decide +kernel
theorem dX1_classes_83 : decode cX1_classes 83 = .ok (.ireturn, 1) := by decide +kernel
theorem dX1_classes_84 : decode cX1_classes 84 = .ok (.iconst 1, 1) := by decide +kernel
theorem dX1_classes_85 : decode cX1_classes 85 = .ok (.istore_n 3, 1) := by decide +kernel
theorem dX1_classes_86 : decode cX1_classes 86 = .ok (.iload_n 3, 1) := by decide +kernel
theorem dX1_classes_87 : decode cX1_classes 87 = .ok (.aload_n 0, 1) := by decide +kernel
theorem dX1_classes_88 : decode cX1_classes 88 = .ok (.getfield 42, 3) := by decide +kernel
theorem dX1_classes_91 : decode cX1_classes 91 = .ok (.if_icmp .ge 104, 3) := by decide +kernel
theorem dX1_classes_94 : decode cX1_classes 94 = .ok (.iload_n 3, 1) := by decide +kernel
theorem dX1_classes_95 : decode cX1_classes 95 = .ok (.ineg, 1) := by decide +kernel
theorem dX1_classes_96 : decode cX1_classes 96 = .ok (.istore 4, 2) := by decide +kernel
theorem dX1_classes_98 : decode cX1_classes 98 = .ok (.iload 4, 2) := by decide +kernel
theorem dX1_classes_100 : decode cX1_classes 100 = .ok (.iload_n 3, 1) := by decide +kernel
theorem dX1_classes_101 : decode cX1_classes 101 = .ok (.if_icmp .gt 88, 3) := by decide +kernel
theorem dX1_classes_104 : decode cX1_classes 104 = .ok (.iload 4, 2) := by decide +kernel
theorem dX1_classes_106 : decode cX1_classes 106 = .ok (.iload 4, 2) := by decide +kernel
theorem dX1_classes_108 : decode cX1_classes 108 = .ok (.imul, 1) := by decide +kernel
theorem dX1_classes_109 : decode cX1_classes 109 = .ok (.aload_n 0, 1) := by decide +kernel
theorem dX1_classes_110 : decode cX1_classes 110 = .ok (.getfield 42, 3) := by decide +kernel
theorem dX1_classes_113 : decode cX1_classes 113 = .ok (.iadd, 1) := by decide +kernel
theorem dX1_classes_114 : decode cX1_classes 114 = .ok (.iconst 4, 1) := by decide +kernel
theorem dX1_classes_115 : decode cX1_classes 115 = .ok (.iload_n 3, 1) := by decide +kernel
theorem dX1_classes_116 : decode cX1_classes 116 = .ok (.imul, 1) := by decide +kernel
theorem dX1_classes_117 : decode cX1_classes 117 = .ok (.idiv, 1) := by decide +kernel
theorem dX1_classes_118 : decode cX1_classes 118 = .ok (.istore 5, 2) := by decide +kernel
theorem dX1_classes_120 : decode cX1_classes 120 = .ok (.iconst 4, 1) := by decide +kernel
theorem dX1_classes_121 : decode cX1_classes 121 = .ok (.iload_n 3, 1) := by decide +kernel
theorem dX1_classes_122 : decode cX1_classes 122 = .ok (.imul, 1) := by decide +kernel
theorem dX1_classes_123 : decode cX1_classes 123 = .ok (.iload 5, 2) := by decide +kernel
theorem dX1_classes_125 : decode cX1_classes 125 = .ok (.imul, 1) := by decide +kernel
theorem dX1_classes_126 : decode cX1_classes 126 = .ok (.iload 4, 2) := by decide +kernel
theorem dX1_classes_128 : decode cX1_classes 128 = .ok (.iload 4, 2) := by decide +kernel
theorem dX1_classes_130 : decode cX1_classes 130 = .ok (.imul, 1) := by decide +kernel
theorem dX1_classes_131 : decode cX1_classes 131 = .ok (.aload_n 0, 1) := by decide +kernel
theorem dX1_classes_132 : decode cX1_classes 132 = .ok (.getfield 42, 3) := by decide +kernel
theorem dX1_classes_135 : decode cX1_classes 135 = .ok (.iadd, 1) := by decide +kernel
theorem dX1_classes_136 : decode cX1_classes 136 = .ok (.if_icmp .ne 13, 3) := by decide +kernel
theorem dX1_classes_139 : decode cX1_classes 139 = .ok (.iload_n 3, 1) := by decide +kernel
theorem dX1_classes_140 : decode cX1_classes 140 = .ok (.iload 5, 2) := by decide +kernel
theorem dX1_classes_142 : decode cX1_classes 142 = .ok (.if_icmp .gt 7, 3) := by decide +kernel
theorem dX1_classes_145 : decode cX1_classes 145 = .ok (.iconst 1, 1) := by decide +kernel
theorem dX1_classes_146 : decode cX1_classes 146 = .ok (.goto 4, 3) := by decide +kernel
theorem dX1_classes_149 : decode cX1_classes 149 = .ok (.iconst 0, 1) := by decide +kernel
theorem dX1_classes_150 : decode cX1_classes 150 = .ok (.istore 6, 2) := by decide +kernel
theorem dX1_classes_152 : decode cX1_classes 152 = .ok (.iload_n 2, 1) := by decide +kernel
theorem dX1_classes_153 : decode cX1_classes 153 = .ok (.iload 6, 2) := by decide +kernel
theorem dX1_classes_155 : decode cX1_classes 155 = .ok (.ifCond .eq 25, 3) := by decide +kernel
theorem dX1_classes_158 : decode cX1_classes 158 = .ok (.iload 4, 2) := by decide +kernel
theorem dX1_classes_160 : decode cX1_classes 160 = .ok (.ifCond .ge 16, 3) := by decide +kernel
theorem dX1_classes_163 : decode cX1_classes 163 = .ok (.iload 4, 2) := by decide +kernel
theorem dX1_classes_165 : decode cX1_classes 165 = .ok (.ineg, 1) := by decide +kernel
theorem dX1_classes_166 : decode cX1_classes 166 = .ok (.iload_n 3, 1) := by decide +kernel
theorem dX1_classes_167 : decode cX1_classes 167 = .ok (.if_icmp .eq 13, 3) := by decide +kernel
theorem dX1_classes_170 : decode cX1_classes 170 = .ok (.iload_n 3, 1) := by decide +kernel
theorem dX1_classes_171 : decode cX1_classes 171 = .ok (.iload 5, 2) := by decide +kernel
theorem dX1_classes_173 : decode cX1_classes 173 = .ok (.if_icmp .eq 7, 3) := by decide +kernel
theorem dX1_classes_176 : decode cX1_classes 176 = .ok (.iconst 1, 1) := by decide +kernel
theorem dX1_classes_177 : decode cX1_classes 177 = .ok (.goto 4, 3) := by decide +kernel
theorem dX1_classes_180 : decode cX1_classes 180 = .ok (.iconst 0, 1) := by decide +kernel
theorem dX1_classes_181 : decode cX1_classes 181 = .ok (.iadd, 1) := by decide +kernel
theorem dX1_classes_182 : decode cX1_classes 182 = .ok (.istore_n 2, 1) := by decide +kernel
theorem dX1_classes_183 : decode cX1_classes 183 = .ok (.iinc 4 1, 3) := by decide +kernel
theorem dX1_classes_186 : decode cX1_classes 186 = .ok (.goto (-88), 3) := by decide +kernel
theorem dX1_classes_189 : decode cX1_classes 189 = .ok (.iinc 3 1, 3) := by decide +kernel
theorem dX1_classes_192 : decode cX1_classes 192 = .ok (.goto (-106), 3) := by decide +kernel
theorem dX1_classes_195 : decode cX1_classes 195 = .ok (.iload_n 2, 1) := by decide +kernel
theorem dX1_classes_196 : decode cX1_classes 196 = .ok (.ireturn, 1) := by decide +kernel
theorem dX1_count_0 : decode cX1_count 0 = .ok (.iload_n 1, 1) := by decide +kernel
theorem dX1_count_1 : decode cX1_count 1 = .ok (.ifCond .ne 10, 3) := by decide +kernel
theorem dX1_count_4 : decode cX1_count 4 = .ok (.aload_n 0, 1) := by decide +kernel
theorem dX1_count_5 : decode cX1_count 5 = .ok (.getfield 42, 3) := by decide +kernel
theorem dX1_count_8 : decode cX1_count 8 = .ok (.goto 41, 3) := by decide +kernel
theorem dX1_count_11 : decode cX1_count 11 = .ok (.iload_n 1, 1) := by decide +kernel
theorem dX1_count_12 : decode cX1_count 12 = .ok (.iconst 1, 1) := by decide +kernel
theorem dX1_count_13 : decode cX1_count 13 = .ok (.if_icmp .ne 10, 3) := by decide +kernel
theorem dX1_count_16 : decode cX1_count 16 = .ok (.aload_n 0, 1) := by decide +kernel
theorem dX1_count_17 : decode cX1_count 17 = .ok (.getfield 46, 3) := by decide +kernel
theorem dX1_count_20 : decode cX1_count 20 = .ok (.goto 29, 3) := by decide +kernel
theorem dX1_count_23 : decode cX1_count 23 = .ok (.iload_n 1, 1) := by decide +kernel
theorem dX1_count_24 : decode cX1_count 24 = .ok (.iconst 2, 1) := by decide +kernel
theorem dX1_count_25 : decode cX1_count 25 = .ok (.if_icmp .ne 10, 3) := by decide +kernel
theorem dX1_count_28 : decode cX1_count 28 = .ok (.aload_n 0, 1) := by decide +kernel
theorem dX1_count_29 : decode cX1_count 29 = .ok (.getfield 52, 3) := by decide +kernel
theorem dX1_count_32 : decode cX1_count 32 = .ok (.goto 17, 3) := by decide +kernel
theorem dX1_count_35 : decode cX1_count 35 = .ok (.iload_n 1, 1) := by decide +kernel
theorem dX1_count_36 : decode cX1_count 36 = .ok (.iconst 3, 1) := by decide +kernel
theorem dX1_count_37 : decode cX1_count 37 = .ok (.if_icmp .ne 10, 3) := by decide +kernel
theorem dX1_count_40 : decode cX1_count 40 = .ok (.aload_n 0, 1) := by decide +kernel
theorem dX1_count_41 : decode cX1_count 41 = .ok (.getfield 55, 3) := by decide +kernel
theorem dX1_count_44 : decode cX1_count 44 = .ok (.goto 5, 3) := by decide +kernel
theorem dX1_count_47 : decode cX1_count 47 = .ok (.bipush (-3), 2) := by decide +kernel
theorem dX1_count_49 : decode cX1_count 49 = .ok (.ireturn, 1) := by decide +kernel
theorem dJ9_floorMod_7cf53_0 : decode cJ9_floorMod_7cf53 0 = .ok (.iload_n 0, 1) := by decide +kernel
theorem dJ9_floorMod_7cf53_1 : decode cJ9_floorMod_7cf53 1 = .ok (.iload_n 1, 1) := by decide +kernel
theorem dJ9_floorMod_7cf53_2 : decode cJ9_floorMod_7cf53 2 = .ok (.irem, 1) := by decide +kernel
theorem dJ9_floorMod_7cf53_3 : decode cJ9_floorMod_7cf53 3 = .ok (.istore_n 2, 1) := by decide +kernel
theorem dJ9_floorMod_7cf53_4 : decode cJ9_floorMod_7cf53 4 = .ok (.iload_n 0, 1) := by decide +kernel
theorem dJ9_floorMod_7cf53_5 : decode cJ9_floorMod_7cf53 5 = .ok (.iload_n 1, 1) := by decide +kernel
theorem dJ9_floorMod_7cf53_6 : decode cJ9_floorMod_7cf53 6 = .ok (.ixor, 1) := by decide +kernel
theorem dJ9_floorMod_7cf53_7 : decode cJ9_floorMod_7cf53 7 = .ok (.ifCond .ge 11, 3) := by decide +kernel
theorem dJ9_floorMod_7cf53_10 : decode cJ9_floorMod_7cf53 10 = .ok (.iload_n 2, 1) := by decide +kernel
theorem dJ9_floorMod_7cf53_11 : decode cJ9_floorMod_7cf53 11 = .ok (.ifCond .eq 7, 3) := by decide +kernel
theorem dJ9_floorMod_7cf53_14 : decode cJ9_floorMod_7cf53 14 = .ok (.iload_n 2, 1) := by decide +kernel
theorem dJ9_floorMod_7cf53_15 : decode cJ9_floorMod_7cf53 15 = .ok (.iload_n 1, 1) := by decide +kernel
theorem dJ9_floorMod_7cf53_16 : decode cJ9_floorMod_7cf53 16 = .ok (.iadd, 1) := by decide +kernel
theorem dJ9_floorMod_7cf53_17 : decode cJ9_floorMod_7cf53 17 = .ok (.ireturn, 1) := by decide +kernel
theorem dJ9_floorMod_7cf53_18 : decode cJ9_floorMod_7cf53 18 = .ok (.iload_n 2, 1) := by decide +kernel
theorem dJ9_floorMod_7cf53_19 : decode cJ9_floorMod_7cf53 19 = .ok (.ireturn, 1) := by decide +kernel
theorem dJ9_abs_0f7a4_0 : decode cJ9_abs_0f7a4 0 = .ok (.iload_n 0, 1) := by decide +kernel
theorem dJ9_abs_0f7a4_1 : decode cJ9_abs_0f7a4 1 = .ok (.ifCond .ge 8, 3) := by decide +kernel
theorem dJ9_abs_0f7a4_4 : decode cJ9_abs_0f7a4 4 = .ok (.iload_n 0, 1) := by decide +kernel
theorem dJ9_abs_0f7a4_5 : decode cJ9_abs_0f7a4 5 = .ok (.ineg, 1) := by decide +kernel
theorem dJ9_abs_0f7a4_6 : decode cJ9_abs_0f7a4 6 = .ok (.goto 4, 3) := by decide +kernel
theorem dJ9_abs_0f7a4_9 : decode cJ9_abs_0f7a4 9 = .ok (.iload_n 0, 1) := by decide +kernel
theorem dJ9_abs_0f7a4_10 : decode cJ9_abs_0f7a4 10 = .ok (.ireturn, 1) := by decide +kernel
theorem dJ9_max_7cf53_0 : decode cJ9_max_7cf53 0 = .ok (.iload_n 0, 1) := by decide +kernel
theorem dJ9_max_7cf53_1 : decode cJ9_max_7cf53 1 = .ok (.iload_n 1, 1) := by decide +kernel
theorem dJ9_max_7cf53_2 : decode cJ9_max_7cf53 2 = .ok (.if_icmp .lt 7, 3) := by decide +kernel
theorem dJ9_max_7cf53_5 : decode cJ9_max_7cf53 5 = .ok (.iload_n 0, 1) := by decide +kernel
theorem dJ9_max_7cf53_6 : decode cJ9_max_7cf53 6 = .ok (.goto 4, 3) := by decide +kernel
theorem dJ9_max_7cf53_9 : decode cJ9_max_7cf53 9 = .ok (.iload_n 1, 1) := by decide +kernel
theorem dJ9_max_7cf53_10 : decode cJ9_max_7cf53 10 = .ok (.ireturn, 1) := by decide +kernel
theorem dJ7_fill_d0a16_0 : decode cJ7_fill_d0a16 0 = .ok (.iconst 0, 1) := by decide +kernel
theorem dJ7_fill_d0a16_1 : decode cJ7_fill_d0a16 1 = .ok (.istore_n 3, 1) := by decide +kernel
theorem dJ7_fill_d0a16_2 : decode cJ7_fill_d0a16 2 = .ok (.aload_n 0, 1) := by decide +kernel
theorem dJ7_fill_d0a16_3 : decode cJ7_fill_d0a16 3 = .ok (.arraylength, 1) := by decide +kernel
theorem dJ7_fill_d0a16_4 : decode cJ7_fill_d0a16 4 = .ok (.istore 4, 2) := by decide +kernel
theorem dJ7_fill_d0a16_6 : decode cJ7_fill_d0a16 6 = .ok (.iload_n 3, 1) := by decide +kernel
theorem dJ7_fill_d0a16_7 : decode cJ7_fill_d0a16 7 = .ok (.iload 4, 2) := by decide +kernel
theorem dJ7_fill_d0a16_9 : decode cJ7_fill_d0a16 9 = .ok (.if_icmp .ge 13, 3) := by decide +kernel
theorem dJ7_fill_d0a16_12 : decode cJ7_fill_d0a16 12 = .ok (.aload_n 0, 1) := by decide +kernel
theorem dJ7_fill_d0a16_13 : decode cJ7_fill_d0a16 13 = .ok (.iload_n 3, 1) := by decide +kernel
theorem dJ7_fill_d0a16_14 : decode cJ7_fill_d0a16 14 = .ok (.lload_n 1, 1) := by decide +kernel
theorem dJ7_fill_d0a16_15 : decode cJ7_fill_d0a16 15 = .ok (.lastore, 1) := by decide +kernel
theorem dJ7_fill_d0a16_16 : decode cJ7_fill_d0a16 16 = .ok (.iinc 3 1, 3) := by decide +kernel
theorem dJ7_fill_d0a16_19 : decode cJ7_fill_d0a16 19 = .ok (.goto (-13), 3) := by decide +kernel
theorem dJ7_fill_d0a16_22 : decode cJ7_fill_d0a16 22 = .ok (.return_, 1) := by decide +kernel
theorem dJ7_fill_53178_0 : decode cJ7_fill_53178 0 = .ok (.iconst 0, 1) := by decide +kernel
theorem dJ7_fill_53178_1 : decode cJ7_fill_53178 1 = .ok (.istore_n 2, 1) := by decide +kernel
theorem dJ7_fill_53178_2 : decode cJ7_fill_53178 2 = .ok (.aload_n 0, 1) := by decide +kernel
theorem dJ7_fill_53178_3 : decode cJ7_fill_53178 3 = .ok (.arraylength, 1) := by decide +kernel
theorem dJ7_fill_53178_4 : decode cJ7_fill_53178 4 = .ok (.istore_n 3, 1) := by decide +kernel
theorem dJ7_fill_53178_5 : decode cJ7_fill_53178 5 = .ok (.iload_n 2, 1) := by decide +kernel
theorem dJ7_fill_53178_6 : decode cJ7_fill_53178 6 = .ok (.iload_n 3, 1) := by decide +kernel
theorem dJ7_fill_53178_7 : decode cJ7_fill_53178 7 = .ok (.if_icmp .ge 13, 3) := by decide +kernel
theorem dJ7_fill_53178_10 : decode cJ7_fill_53178 10 = .ok (.aload_n 0, 1) := by decide +kernel
theorem dJ7_fill_53178_11 : decode cJ7_fill_53178 11 = .ok (.iload_n 2, 1) := by decide +kernel
theorem dJ7_fill_53178_12 : decode cJ7_fill_53178 12 = .ok (.iload_n 1, 1) := by decide +kernel
theorem dJ7_fill_53178_13 : decode cJ7_fill_53178 13 = .ok (.iastore, 1) := by decide +kernel
theorem dJ7_fill_53178_14 : decode cJ7_fill_53178 14 = .ok (.iinc 2 1, 3) := by decide +kernel
theorem dJ7_fill_53178_17 : decode cJ7_fill_53178 17 = .ok (.goto (-12), 3) := by decide +kernel
theorem dJ7_fill_53178_20 : decode cJ7_fill_53178 20 = .ok (.return_, 1) := by decide +kernel
end
section
/-! BASE: numbers, rows of walks in them, contracts over a world -/
def zI (z : Int) : Int32 := Int32.ofInt z
def zL (z : Int) : Int64 := Int64.ofInt z
theorem nI_zI (n : Nat) : nI n = zI (n : Int) := (Int32.ofInt_eq_ofNat).symm
theorem zI_add (a b : Int) : zI a + zI b = zI (a + b) := (Int32.ofInt_add a b).symm
theorem zI_sub (a b : Int) : zI a - zI b = zI (a - b) := (Int32.ofInt_sub a b).symm
theorem zI_mul (a b : Int) : zI a * zI b = zI (a * b) := (Int32.ofInt_mul a b).symm
theorem zI_neg (a : Int) : - zI a = zI (-a) := (Int32.ofInt_neg a).symm
theorem zI_toInt {a : Int} (h1 : -2147483648 ≤ a) (h2 : a < 2147483648) : (zI a).toInt = a := Int32.toInt_ofInt_of_le (by omega) (by omega)
theorem zI_of (x : Int32) : zI x.toInt = x := Int32.ofInt_toInt x
theorem zI_lt {a b : Int} (ha : -2147483648 ≤ a ∧ a < 2147483648) (hb : -2147483648 ≤ b ∧ b < 2147483648) : zI a < zI b ↔ a < b := by
  rw [Int32.lt_iff_toInt_lt, zI_toInt ha.1 ha.2, zI_toInt hb.1 hb.2]
theorem zI_le {a b : Int} (ha : -2147483648 ≤ a ∧ a < 2147483648) (hb : -2147483648 ≤ b ∧ b < 2147483648) : zI a ≤ zI b ↔ a ≤ b := by
  rw [Int32.le_iff_toInt_le, zI_toInt ha.1 ha.2, zI_toInt hb.1 hb.2]
theorem zI_eq {a b : Int} (ha : -2147483648 ≤ a ∧ a < 2147483648) (hb : -2147483648 ≤ b ∧ b < 2147483648) : zI a = zI b ↔ a = b := by
  constructor
  · intro h
    have := congrArg Int32.toInt h
    rwa [zI_toInt ha.1 ha.2, zI_toInt hb.1 hb.2] at this
  · intro h
    rw [h]
theorem zI_rng (x : Int32) : -2147483648 ≤ x.toInt ∧ x.toInt < 2147483648 := ⟨by have := x.minValue_le_toInt; have h : Int32.minValue.toInt = -2147483648 := (by decide); omega, by have := x.toInt_le; have h : Int32.maxValue.toInt = 2147483647 := (by decide); omega⟩
theorem zL_rng (x : Int64) : -9223372036854775808 ≤ x.toInt ∧ x.toInt < 9223372036854775808 := ⟨by have := x.minValue_le_toInt; have h : Int64.minValue.toInt = -9223372036854775808 := (by decide); omega, by have := x.toInt_le; have h : Int64.maxValue.toInt = 9223372036854775807 := (by decide); omega⟩
theorem zL_add (a b : Int) : zL a + zL b = zL (a + b) := (Int64.ofInt_add a b).symm
theorem zL_sub (a b : Int) : zL a - zL b = zL (a - b) := (Int64.ofInt_sub a b).symm
theorem zL_mul (a b : Int) : zL a * zL b = zL (a * b) := (Int64.ofInt_mul a b).symm
theorem zL_neg (a : Int) : - zL a = zL (-a) := (Int64.ofInt_neg a).symm
theorem zL_toInt {a : Int} (h1 : -9223372036854775808 ≤ a) (h2 : a < 9223372036854775808) : (zL a).toInt = a := Int64.toInt_ofInt_of_le (by omega) (by omega)
theorem zL_of (x : Int64) : zL x.toInt = x := Int64.ofInt_toInt x
theorem zL_i (x : Int32) : x.toInt64 = zL x.toInt := (Int64.ofInt_int32ToInt x).symm
theorem zL_zI {a : Int} (h1 : -2147483648 ≤ a) (h2 : a < 2147483648) : (zI a).toInt64 = zL a := by rw [zL_i, zI_toInt h1 h2]
theorem zL_nI {n : Nat} (h : n < 2147483648) : (nI n).toInt64 = zL (n : Int) := by rw [nI_zI, zL_zI (by omega) (by omega)]
theorem zL_toI (a : Int) : (zL a).toInt32 = zI a := Int64.toInt32_ofInt
theorem zL_eq {a b : Int} (ha : -9223372036854775808 ≤ a ∧ a < 9223372036854775808) (hb : -9223372036854775808 ≤ b ∧ b < 9223372036854775808) : zL a = zL b ↔ a = b := by
  constructor
  · intro h
    have := congrArg Int64.toInt h
    rwa [zL_toInt ha.1 ha.2, zL_toInt hb.1 hb.2] at this
  · intro h
    rw [h]
theorem nI_inc (i : Nat) : nI i + Int32.ofInt 1 = nI (i + 1) := nI_1 i
theorem nI_dec (i : Nat) : nI (i + 1) + Int32.ofInt (-1) = nI i := pk_m1 i
theorem nI_inc5 (i : Nat) : nI i + Int32.ofInt 5 = nI (i + 5) := nI_add i 5
theorem zI_inc (i : Int) : zI i + Int32.ofInt 1 = zI (i + 1) := zI_add i 1
theorem nI_iff (n : Nat) (k : Int) (h : (n : Int) = k) : Int32.ofInt k = nI n := by subst h; exact Int32.ofInt_eq_ofNat
theorem nI_b8 (n : Nat) (k : Int) (h : (n : Int) = k) (h2 : n < 128) : (Int8.ofInt k).toInt32 = nI n := by
  subst h
  rw [nI_zI, zI, Int8.toInt32_ofInt (by have : Int8.minValue.toInt = -128 := by decide
                                        omega) (by have : Int8.maxValue.toInt = 127 := by decide
                                                   omega)]
theorem nI_b16 (n : Nat) (k : Int) (h : (n : Int) = k) (h2 : n < 32768) : (Int16.ofInt k).toInt32 = nI n := by
  subst h
  rw [nI_zI, zI, Int16.toInt32_ofInt (by have : Int16.minValue.toInt = -32768 := by decide
                                         omega) (by have : Int16.maxValue.toInt = 32767 := by decide
                                                    omega)]
/-- the whole number below n that x leaves -/
def fmN (x : Int) (n : Nat) : Nat := (x % (n : Int)).toNat
theorem fmN_lt (x : Int) {n : Nat} (h : 0 < n) : fmN x n < n := by
  unfold fmN
  have h1 := Int.emod_lt_of_pos x (show (0 : Int) < (n : Int) by omega)
  have h2 := Int.emod_nonneg x (show (n : Int) ≠ 0 by omega)
  omega
theorem fmN_cast (x : Int) {n : Nat} (h : 0 < n) : ((fmN x n : Nat) : Int) = x % (n : Int) := by
  unfold fmN
  have h2 := Int.emod_nonneg x (show (n : Int) ≠ 0 by omega)
  omega
theorem fmN_nat (a n : Nat) : fmN (a : Int) n = a % n := by
  unfold fmN
  omega
section BASE
variable {p : Program} {l : Launch} {e : Env} {R : Room} {s : State} {m : MethodId} {args : Array Value} {below : List Frame} {meth : Method} {c : Code} {H : Heap} {locs : List Loc} {cells slots : Nat} {Q : State → Prop}
variable {cc : ByteArray} {pc : Nat} {ls : Array Slot} {rest : List Value} {D : va_G} {cl : List vw_C} {A : Nat → Prop} {a : Nat} {tys : List (ClassId × FieldType)} {ws : va_W} {H0 : Heap}

theorem tq_i {x y : Int32} (h : x = y) (k : W p l e R s m args below meth c H locs cells slots Q (F0 m pc ls (.int y :: rest))) : W p l e R s m args below meth c H locs cells slots Q (F0 m pc ls (.int x :: rest)) := by
  rw [h]; exact k
theorem tq_l {x y : Int64} (h : x = y) (k : W p l e R s m args below meth c H locs cells slots Q (F0 m pc ls (.long y :: rest))) : W p l e R s m args below meth c H locs cells slots Q (F0 m pc ls (.long x :: rest)) := by
  rw [h]; exact k
theorem tq_i2 {v : Value} {x y : Int32} (h : x = y) (k : W p l e R s m args below meth c H locs cells slots Q (F0 m pc ls (v :: .int y :: rest))) : W p l e R s m args below meth c H locs cells slots Q (F0 m pc ls (v :: .int x :: rest)) := by
  rw [h]; exact k
theorem tq_v {v w : Value} (h : v = w) (k : W p l e R s m args below meth c H locs cells slots Q (F0 m pc ls (w :: rest))) : W p l e R s m args below meth c H locs cells slots Q (F0 m pc ls (v :: rest)) := by
  rw [h]; exact k
theorem nv_iconst (hx : p.tables.exec = Jvm.exec) (hb : c.code = cc) {n : Int} {k : Nat} (hdg : decode cc pc = .ok (.iconst n, 1)) (hn : (k : Int) = n) (kk : W p l e R s m args below meth c H locs cells slots Q (F0 m (pc + 1) ls (.int (nI k) :: rest))) : W p l e R s m args below meth c H locs cells slots Q (F0 m pc ls (rest)) := lv_iconst hx hb hdg (nI_iff k n hn) kk
theorem nv_bipush (hx : p.tables.exec = Jvm.exec) (hb : c.code = cc) {n : Int} {k : Nat} (hdg : decode cc pc = .ok (.bipush n, 2)) (hn : (k : Int) = n) (hk : k < 128) (kk : W p l e R s m args below meth c H locs cells slots Q (F0 m (pc + 2) ls (.int (nI k) :: rest))) : W p l e R s m args below meth c H locs cells slots Q (F0 m pc ls (rest)) := lv_bipush hx hb hdg (nI_b8 k n hn hk) kk
theorem nv_sipush (hx : p.tables.exec = Jvm.exec) (hb : c.code = cc) {n : Int} {k : Nat} (hdg : decode cc pc = .ok (.sipush n, 3)) (hn : (k : Int) = n) (hk : k < 32768) (kk : W p l e R s m args below meth c H locs cells slots Q (F0 m (pc + 3) ls (.int (nI k) :: rest))) : W p l e R s m args below meth c H locs cells slots Q (F0 m pc ls (rest)) := lv_sipush hx hb hdg (nI_b16 k n hn hk) kk
theorem nv_iadd (hx : p.tables.exec = Jvm.exec) (hb : c.code = cc) {a b : Nat} (hdg : decode cc pc = .ok (.iadd, 1)) (kk : W p l e R s m args below meth c H locs cells slots Q (F0 m (pc + 1) ls (.int (nI (a + b)) :: rest))) : W p l e R s m args below meth c H locs cells slots Q (F0 m pc ls (.int (nI b) :: .int (nI a) :: rest)) := lv_iadd hx hb hdg (tq_i (nI_add a b) kk)
theorem nv_isub (hx : p.tables.exec = Jvm.exec) (hb : c.code = cc) {a b : Nat} (h : b ≤ a) (hdg : decode cc pc = .ok (.isub, 1)) (kk : W p l e R s m args below meth c H locs cells slots Q (F0 m (pc + 1) ls (.int (nI (a - b)) :: rest))) : W p l e R s m args below meth c H locs cells slots Q (F0 m pc ls (.int (nI b) :: .int (nI a) :: rest)) := lv_isub hx hb hdg (tq_i (pk_sub h) kk)
theorem nv_imul (hx : p.tables.exec = Jvm.exec) (hb : c.code = cc) {a b : Nat} (hdg : decode cc pc = .ok (.imul, 1)) (kk : W p l e R s m args below meth c H locs cells slots Q (F0 m (pc + 1) ls (.int (nI (a * b)) :: rest))) : W p l e R s m args below meth c H locs cells slots Q (F0 m pc ls (.int (nI b) :: .int (nI a) :: rest)) := lv_imul hx hb hdg (tq_i (pk_mul a b) kk)
theorem nv_irem (hx : p.tables.exec = Jvm.exec) (hb : c.code = cc) {a b : Nat} (ha : a < 2147483648) (h0 : 0 < b) (hb2 : b < 2147483648) (hdg : decode cc pc = .ok (.irem, 1)) (kk : W p l e R s m args below meth c H locs cells slots Q (F0 m (pc + 1) ls (.int (nI (a % b)) :: rest))) : W p l e R s m args below meth c H locs cells slots Q (F0 m pc ls (.int (nI b) :: .int (nI a) :: rest)) := lv_irem hx hb hdg (nI_ne0 h0 hb2) (tq_i (pk_rem ha h0 hb2) kk)
theorem nv_idiv (hx : p.tables.exec = Jvm.exec) (hb : c.code = cc) {a b : Nat} (ha : a < 2147483648) (h0 : 0 < b) (hb2 : b < 2147483648) (hdg : decode cc pc = .ok (.idiv, 1)) (kk : W p l e R s m args below meth c H locs cells slots Q (F0 m (pc + 1) ls (.int (nI (a / b)) :: rest))) : W p l e R s m args below meth c H locs cells slots Q (F0 m pc ls (.int (nI b) :: .int (nI a) :: rest)) := lv_idiv hx hb hdg (nI_ne0 h0 hb2) (tq_i (pk_div ha h0 hb2) kk)
theorem zv_iadd (hx : p.tables.exec = Jvm.exec) (hb : c.code = cc) {a b : Int} (hdg : decode cc pc = .ok (.iadd, 1)) (kk : W p l e R s m args below meth c H locs cells slots Q (F0 m (pc + 1) ls (.int (zI (a + b)) :: rest))) : W p l e R s m args below meth c H locs cells slots Q (F0 m pc ls (.int (zI b) :: .int (zI a) :: rest)) := lv_iadd hx hb hdg (tq_i (zI_add a b) kk)
theorem zv_isub (hx : p.tables.exec = Jvm.exec) (hb : c.code = cc) {a b : Int} (hdg : decode cc pc = .ok (.isub, 1)) (kk : W p l e R s m args below meth c H locs cells slots Q (F0 m (pc + 1) ls (.int (zI (a - b)) :: rest))) : W p l e R s m args below meth c H locs cells slots Q (F0 m pc ls (.int (zI b) :: .int (zI a) :: rest)) := lv_isub hx hb hdg (tq_i (zI_sub a b) kk)
theorem zv_imul (hx : p.tables.exec = Jvm.exec) (hb : c.code = cc) {a b : Int} (hdg : decode cc pc = .ok (.imul, 1)) (kk : W p l e R s m args below meth c H locs cells slots Q (F0 m (pc + 1) ls (.int (zI (a * b)) :: rest))) : W p l e R s m args below meth c H locs cells slots Q (F0 m pc ls (.int (zI b) :: .int (zI a) :: rest)) := lv_imul hx hb hdg (tq_i (zI_mul a b) kk)
theorem zv_ineg (hx : p.tables.exec = Jvm.exec) (hb : c.code = cc) {a : Int} (hdg : decode cc pc = .ok (.ineg, 1)) (kk : W p l e R s m args below meth c H locs cells slots Q (F0 m (pc + 1) ls (.int (zI (-a)) :: rest))) : W p l e R s m args below meth c H locs cells slots Q (F0 m pc ls (.int (zI a) :: rest)) := lv_ineg hx hb hdg (tq_i (zI_neg a) kk)
theorem zv_2 {v w : Int32} {a b : Int} (h1 : v = zI a) (h2 : w = zI b) (kk : W p l e R s m args below meth c H locs cells slots Q (F0 m pc ls (.int (zI a) :: .int (zI b) :: rest))) : W p l e R s m args below meth c H locs cells slots Q (F0 m pc ls (.int v :: .int w :: rest)) := by
  rw [h1, h2]; exact kk
theorem zv_1 {v : Int32} {a : Int} (h1 : v = zI a) (kk : W p l e R s m args below meth c H locs cells slots Q (F0 m pc ls (.int (zI a) :: rest))) : W p l e R s m args below meth c H locs cells slots Q (F0 m pc ls (.int v :: rest)) := by
  rw [h1]; exact kk
theorem nv_iald (hx : p.tables.exec = Jvm.exec) (hb : c.code = cc) (hK : va_K D cl tys s) (hP : va_P D cl ws H) (q0 t0 : Nat) {cA : ClassId} {n : Nat} {f : Nat → Int32} (ha : ws[q0]? = some (a, .inl (cA, n, .inl f))) (ht : tys[t0]? = some (cA, .int)) {i : Nat} (hi : i < n) (hn : n < 2147483648) {v : Int32} (hv : f i = v) (hdg : decode cc pc = .ok (.iaload, 1)) (kk : W p l e R s m args below meth c H locs cells slots Q (F0 m (pc + 1) ls (.int v :: rest))) : W p l e R s m args below meth c H locs cells slots Q (F0 m pc ls (.int (nI i) :: .ref a :: rest)) :=
  va_iald hx hb hK hP q0 t0 ha ht (vp_in_nI hi hn) hdg (tq_i (by rw [nI_clamp (by omega)]; exact hv) kk)
theorem nv_lald (hx : p.tables.exec = Jvm.exec) (hb : c.code = cc) (hK : va_K D cl tys s) (hP : va_P D cl ws H) (q0 t0 : Nat) {cA : ClassId} {n : Nat} {f : Nat → Int64} (ha : ws[q0]? = some (a, .inl (cA, n, .inr (.inl f)))) (ht : tys[t0]? = some (cA, .long)) {i : Nat} (hi : i < n) (hn : n < 2147483648) {v : Int64} (hv : f i = v) (hdg : decode cc pc = .ok (.laload, 1)) (kk : W p l e R s m args below meth c H locs cells slots Q (F0 m (pc + 1) ls (.long v :: rest))) : W p l e R s m args below meth c H locs cells slots Q (F0 m pc ls (.int (nI i) :: .ref a :: rest)) :=
  va_lald hx hb hK hP q0 t0 ha ht (vp_in_nI hi hn) hdg (tq_l (by rw [nI_clamp (by omega)]; exact hv) kk)
theorem nv_iast (hx : p.tables.exec = Jvm.exec) (hb : c.code = cc) (hK : va_K D cl tys s) (hP : va_P D cl ws H) (hD : va_D A ws) (hS : va_S A H0 H locs) (q0 t0 : Nat) {cA : ClassId} {n : Nat} {f : Nat → Int32} (ha : ws[q0]? = some (a, .inl (cA, n, .inl f))) (ht : tys[t0]? = some (cA, .int)) {i : Nat} {x : Int32} (hi : i < n) (hn : n < 2147483648) {ws' : va_W} (hw : ws.set q0 (a, .inl (cA, n, .inl (upd f i x))) = ws') (hdg : decode cc pc = .ok (.iastore, 1))
    (kk : ∀ (H1 : Heap) (locs1 : List Loc), va_P D cl ws' H1 → va_D A ws' → va_S A H0 H1 locs1 → W p l e R s m args below meth c H1 locs1 cells slots Q (F0 m (pc + 1) ls rest)) : W p l e R s m args below meth c H locs cells slots Q (F0 m pc ls (.int x :: .int (nI i) :: .ref a :: rest)) := by
  subst hw
  refine va_iast hx hb hK hP hD hS q0 t0 ha ht (vp_in_nI hi hn) hdg ?_
  rw [nI_clamp (by omega)]
  exact kk
theorem nv_last (hx : p.tables.exec = Jvm.exec) (hb : c.code = cc) (hK : va_K D cl tys s) (hP : va_P D cl ws H) (hD : va_D A ws) (hS : va_S A H0 H locs) (q0 t0 : Nat) {cA : ClassId} {n : Nat} {f : Nat → Int64} (ha : ws[q0]? = some (a, .inl (cA, n, .inr (.inl f)))) (ht : tys[t0]? = some (cA, .long)) {i : Nat} {x : Int64} (hi : i < n) (hn : n < 2147483648) {ws' : va_W} (hw : ws.set q0 (a, .inl (cA, n, .inr (.inl (vp_updL f i x)))) = ws') (hdg : decode cc pc = .ok (.lastore, 1))
    (kk : ∀ (H1 : Heap) (locs1 : List Loc), va_P D cl ws' H1 → va_D A ws' → va_S A H0 H1 locs1 → W p l e R s m args below meth c H1 locs1 cells slots Q (F0 m (pc + 1) ls rest)) : W p l e R s m args below meth c H locs cells slots Q (F0 m pc ls (.long x :: .int (nI i) :: .ref a :: rest)) := by
  subst hw
  refine va_last hx hb hK hP hD hS q0 t0 ha ht (vp_in_nI hi hn) hdg ?_
  rw [nI_clamp (by omega)]
  exact kk
/-- a row of rows: the row at i -/
theorem nv_aald (hx : p.tables.exec = Jvm.exec) (hb : c.code = cc) (hK : va_K D cl tys s) (hP : va_P D cl ws H) (q0 t0 : Nat) {cA : ClassId} {ty : FieldType} {n : Nat} {f : Nat → Option Nat} (ha : ws[q0]? = some (a, .inl (cA, n, .inr (.inr (.inr (.inr f)))))) (ht : tys[t0]? = some (cA, .array ty)) {i : Nat} (hi : i < n) (hn : n < 2147483648) {v : Nat} (hv : f i = some v) (hdg : decode cc pc = .ok (.aaload, 1)) (kk : W p l e R s m args below meth c H locs cells slots Q (F0 m (pc + 1) ls (.ref v :: rest))) : W p l e R s m args below meth c H locs cells slots Q (F0 m pc ls (.int (nI i) :: .ref a :: rest)) := by
  have hin := vp_in_nI hi hn
  have hcl : (nI i).toNatClampNeg = i := nI_clamp (by omega)
  have hlt : (nI i).toNatClampNeg < n := by rw [hcl]; exact hi
  refine W.aald (v := va_rf (f (nI i).toNatClampNeg)) (ty := .array ty) hx hb (hP q0 _ ha) ((hK.2 t0 _ ht).1 n (fun j => va_rf (f j))) rfl (fun q => by cases q) (by show ¬ (nI i < 0 ∨ (arrV _ _ _).slots.size ≤ _); rw [arrV_size]; exact hin) (by show (arrV _ _ _).slots[_]? = _; rw [arrV_read _ _ hlt]) rfl rfl hdg ?_
  rw [hcl, hv]
  exact kk

theorem nv_icmp_lt (hx : p.tables.exec = Jvm.exec) (hb : c.code = cc) {a b : Nat} (ha : a < 2147483648) (hbb : b < 2147483648) {off : Int} {tgt : Nat} (hdg : decode cc pc = .ok (.if_icmp .lt off, 3)) (ht : (pc : Int) + off = (tgt : Int)) (kt : a < b → W p l e R s m args below meth c H locs cells slots Q (F0 m tgt ls rest)) (kf : ¬ a < b → W p l e R s m args below meth c H locs cells slots Q (F0 m (pc + 3) ls rest)) : W p l e R s m args below meth c H locs cells slots Q (F0 m pc ls (.int (nI b) :: .int (nI a) :: rest)) :=
  lv_icmp_lt hx hb hdg ht (fun h => kt ((show nI a < nI b ↔ a < b from nI_ltI ha hbb).mp h)) (fun h => kf (fun q => h ((show nI a < nI b ↔ a < b from nI_ltI ha hbb).mpr q)))
theorem zv_icmp_lt (hx : p.tables.exec = Jvm.exec) (hb : c.code = cc) {a b : Int} (ha : -2147483648 ≤ a ∧ a < 2147483648) (hbb : -2147483648 ≤ b ∧ b < 2147483648) {off : Int} {tgt : Nat} (hdg : decode cc pc = .ok (.if_icmp .lt off, 3)) (ht : (pc : Int) + off = (tgt : Int)) (kt : a < b → W p l e R s m args below meth c H locs cells slots Q (F0 m tgt ls rest)) (kf : ¬ a < b → W p l e R s m args below meth c H locs cells slots Q (F0 m (pc + 3) ls rest)) : W p l e R s m args below meth c H locs cells slots Q (F0 m pc ls (.int (zI b) :: .int (zI a) :: rest)) :=
  lv_icmp_lt hx hb hdg ht (fun h => kt ((show zI a < zI b ↔ a < b from zI_lt ha hbb).mp h)) (fun h => kf (fun q => h ((show zI a < zI b ↔ a < b from zI_lt ha hbb).mpr q)))
theorem nv_if_lt (hx : p.tables.exec = Jvm.exec) (hb : c.code = cc) {a : Nat} (ha : a < 2147483648) {off : Int} {tgt : Nat} (hdg : decode cc pc = .ok (.ifCond .lt off, 3)) (ht : (pc : Int) + off = (tgt : Int)) (kt : a < 0 → W p l e R s m args below meth c H locs cells slots Q (F0 m tgt ls rest)) (kf : ¬ a < 0 → W p l e R s m args below meth c H locs cells slots Q (F0 m (pc + 3) ls rest)) : W p l e R s m args below meth c H locs cells slots Q (F0 m pc ls (.int (nI a) :: rest)) :=
  lv_if_lt hx hb hdg ht (fun h => kt ((show nI a < 0 ↔ a < 0 from nI_ltI ha (show (0 : Nat) < 2147483648 by decide)).mp h)) (fun h => kf (fun q => h ((show nI a < 0 ↔ a < 0 from nI_ltI ha (show (0 : Nat) < 2147483648 by decide)).mpr q)))
theorem zv_if_lt (hx : p.tables.exec = Jvm.exec) (hb : c.code = cc) {a : Int} (ha : -2147483648 ≤ a ∧ a < 2147483648) {off : Int} {tgt : Nat} (hdg : decode cc pc = .ok (.ifCond .lt off, 3)) (ht : (pc : Int) + off = (tgt : Int)) (kt : a < 0 → W p l e R s m args below meth c H locs cells slots Q (F0 m tgt ls rest)) (kf : ¬ a < 0 → W p l e R s m args below meth c H locs cells slots Q (F0 m (pc + 3) ls rest)) : W p l e R s m args below meth c H locs cells slots Q (F0 m pc ls (.int (zI a) :: rest)) :=
  lv_if_lt hx hb hdg ht (fun h => kt ((show zI a < 0 ↔ a < 0 from zI_lt ha (show (-2147483648 : Int) ≤ 0 ∧ (0 : Int) < 2147483648 by decide)).mp h)) (fun h => kf (fun q => h ((show zI a < 0 ↔ a < 0 from zI_lt ha (show (-2147483648 : Int) ≤ 0 ∧ (0 : Int) < 2147483648 by decide)).mpr q)))
theorem nv_icmp_le (hx : p.tables.exec = Jvm.exec) (hb : c.code = cc) {a b : Nat} (ha : a < 2147483648) (hbb : b < 2147483648) {off : Int} {tgt : Nat} (hdg : decode cc pc = .ok (.if_icmp .le off, 3)) (ht : (pc : Int) + off = (tgt : Int)) (kt : a ≤ b → W p l e R s m args below meth c H locs cells slots Q (F0 m tgt ls rest)) (kf : ¬ a ≤ b → W p l e R s m args below meth c H locs cells slots Q (F0 m (pc + 3) ls rest)) : W p l e R s m args below meth c H locs cells slots Q (F0 m pc ls (.int (nI b) :: .int (nI a) :: rest)) :=
  lv_icmp_le hx hb hdg ht (fun h => kt ((show nI a ≤ nI b ↔ a ≤ b from nI_leI ha hbb).mp h)) (fun h => kf (fun q => h ((show nI a ≤ nI b ↔ a ≤ b from nI_leI ha hbb).mpr q)))
theorem zv_icmp_le (hx : p.tables.exec = Jvm.exec) (hb : c.code = cc) {a b : Int} (ha : -2147483648 ≤ a ∧ a < 2147483648) (hbb : -2147483648 ≤ b ∧ b < 2147483648) {off : Int} {tgt : Nat} (hdg : decode cc pc = .ok (.if_icmp .le off, 3)) (ht : (pc : Int) + off = (tgt : Int)) (kt : a ≤ b → W p l e R s m args below meth c H locs cells slots Q (F0 m tgt ls rest)) (kf : ¬ a ≤ b → W p l e R s m args below meth c H locs cells slots Q (F0 m (pc + 3) ls rest)) : W p l e R s m args below meth c H locs cells slots Q (F0 m pc ls (.int (zI b) :: .int (zI a) :: rest)) :=
  lv_icmp_le hx hb hdg ht (fun h => kt ((show zI a ≤ zI b ↔ a ≤ b from zI_le ha hbb).mp h)) (fun h => kf (fun q => h ((show zI a ≤ zI b ↔ a ≤ b from zI_le ha hbb).mpr q)))
theorem nv_if_le (hx : p.tables.exec = Jvm.exec) (hb : c.code = cc) {a : Nat} (ha : a < 2147483648) {off : Int} {tgt : Nat} (hdg : decode cc pc = .ok (.ifCond .le off, 3)) (ht : (pc : Int) + off = (tgt : Int)) (kt : a ≤ 0 → W p l e R s m args below meth c H locs cells slots Q (F0 m tgt ls rest)) (kf : ¬ a ≤ 0 → W p l e R s m args below meth c H locs cells slots Q (F0 m (pc + 3) ls rest)) : W p l e R s m args below meth c H locs cells slots Q (F0 m pc ls (.int (nI a) :: rest)) :=
  lv_if_le hx hb hdg ht (fun h => kt ((show nI a ≤ 0 ↔ a ≤ 0 from nI_leI ha (show (0 : Nat) < 2147483648 by decide)).mp h)) (fun h => kf (fun q => h ((show nI a ≤ 0 ↔ a ≤ 0 from nI_leI ha (show (0 : Nat) < 2147483648 by decide)).mpr q)))
theorem zv_if_le (hx : p.tables.exec = Jvm.exec) (hb : c.code = cc) {a : Int} (ha : -2147483648 ≤ a ∧ a < 2147483648) {off : Int} {tgt : Nat} (hdg : decode cc pc = .ok (.ifCond .le off, 3)) (ht : (pc : Int) + off = (tgt : Int)) (kt : a ≤ 0 → W p l e R s m args below meth c H locs cells slots Q (F0 m tgt ls rest)) (kf : ¬ a ≤ 0 → W p l e R s m args below meth c H locs cells slots Q (F0 m (pc + 3) ls rest)) : W p l e R s m args below meth c H locs cells slots Q (F0 m pc ls (.int (zI a) :: rest)) :=
  lv_if_le hx hb hdg ht (fun h => kt ((show zI a ≤ 0 ↔ a ≤ 0 from zI_le ha (show (-2147483648 : Int) ≤ 0 ∧ (0 : Int) < 2147483648 by decide)).mp h)) (fun h => kf (fun q => h ((show zI a ≤ 0 ↔ a ≤ 0 from zI_le ha (show (-2147483648 : Int) ≤ 0 ∧ (0 : Int) < 2147483648 by decide)).mpr q)))
theorem nv_icmp_gt (hx : p.tables.exec = Jvm.exec) (hb : c.code = cc) {a b : Nat} (ha : a < 2147483648) (hbb : b < 2147483648) {off : Int} {tgt : Nat} (hdg : decode cc pc = .ok (.if_icmp .gt off, 3)) (ht : (pc : Int) + off = (tgt : Int)) (kt : b < a → W p l e R s m args below meth c H locs cells slots Q (F0 m tgt ls rest)) (kf : ¬ b < a → W p l e R s m args below meth c H locs cells slots Q (F0 m (pc + 3) ls rest)) : W p l e R s m args below meth c H locs cells slots Q (F0 m pc ls (.int (nI b) :: .int (nI a) :: rest)) :=
  lv_icmp_gt hx hb hdg ht (fun h => kt ((show nI b < nI a ↔ b < a from nI_ltI hbb ha).mp h)) (fun h => kf (fun q => h ((show nI b < nI a ↔ b < a from nI_ltI hbb ha).mpr q)))
theorem zv_icmp_gt (hx : p.tables.exec = Jvm.exec) (hb : c.code = cc) {a b : Int} (ha : -2147483648 ≤ a ∧ a < 2147483648) (hbb : -2147483648 ≤ b ∧ b < 2147483648) {off : Int} {tgt : Nat} (hdg : decode cc pc = .ok (.if_icmp .gt off, 3)) (ht : (pc : Int) + off = (tgt : Int)) (kt : b < a → W p l e R s m args below meth c H locs cells slots Q (F0 m tgt ls rest)) (kf : ¬ b < a → W p l e R s m args below meth c H locs cells slots Q (F0 m (pc + 3) ls rest)) : W p l e R s m args below meth c H locs cells slots Q (F0 m pc ls (.int (zI b) :: .int (zI a) :: rest)) :=
  lv_icmp_gt hx hb hdg ht (fun h => kt ((show zI b < zI a ↔ b < a from zI_lt hbb ha).mp h)) (fun h => kf (fun q => h ((show zI b < zI a ↔ b < a from zI_lt hbb ha).mpr q)))
theorem nv_if_gt (hx : p.tables.exec = Jvm.exec) (hb : c.code = cc) {a : Nat} (ha : a < 2147483648) {off : Int} {tgt : Nat} (hdg : decode cc pc = .ok (.ifCond .gt off, 3)) (ht : (pc : Int) + off = (tgt : Int)) (kt : 0 < a → W p l e R s m args below meth c H locs cells slots Q (F0 m tgt ls rest)) (kf : ¬ 0 < a → W p l e R s m args below meth c H locs cells slots Q (F0 m (pc + 3) ls rest)) : W p l e R s m args below meth c H locs cells slots Q (F0 m pc ls (.int (nI a) :: rest)) :=
  lv_if_gt hx hb hdg ht (fun h => kt ((show 0 < nI a ↔ 0 < a from nI_ltI (show (0 : Nat) < 2147483648 by decide) ha).mp h)) (fun h => kf (fun q => h ((show 0 < nI a ↔ 0 < a from nI_ltI (show (0 : Nat) < 2147483648 by decide) ha).mpr q)))
theorem zv_if_gt (hx : p.tables.exec = Jvm.exec) (hb : c.code = cc) {a : Int} (ha : -2147483648 ≤ a ∧ a < 2147483648) {off : Int} {tgt : Nat} (hdg : decode cc pc = .ok (.ifCond .gt off, 3)) (ht : (pc : Int) + off = (tgt : Int)) (kt : 0 < a → W p l e R s m args below meth c H locs cells slots Q (F0 m tgt ls rest)) (kf : ¬ 0 < a → W p l e R s m args below meth c H locs cells slots Q (F0 m (pc + 3) ls rest)) : W p l e R s m args below meth c H locs cells slots Q (F0 m pc ls (.int (zI a) :: rest)) :=
  lv_if_gt hx hb hdg ht (fun h => kt ((show 0 < zI a ↔ 0 < a from zI_lt (show (-2147483648 : Int) ≤ 0 ∧ (0 : Int) < 2147483648 by decide) ha).mp h)) (fun h => kf (fun q => h ((show 0 < zI a ↔ 0 < a from zI_lt (show (-2147483648 : Int) ≤ 0 ∧ (0 : Int) < 2147483648 by decide) ha).mpr q)))
theorem nv_icmp_ge (hx : p.tables.exec = Jvm.exec) (hb : c.code = cc) {a b : Nat} (ha : a < 2147483648) (hbb : b < 2147483648) {off : Int} {tgt : Nat} (hdg : decode cc pc = .ok (.if_icmp .ge off, 3)) (ht : (pc : Int) + off = (tgt : Int)) (kt : b ≤ a → W p l e R s m args below meth c H locs cells slots Q (F0 m tgt ls rest)) (kf : ¬ b ≤ a → W p l e R s m args below meth c H locs cells slots Q (F0 m (pc + 3) ls rest)) : W p l e R s m args below meth c H locs cells slots Q (F0 m pc ls (.int (nI b) :: .int (nI a) :: rest)) :=
  lv_icmp_ge hx hb hdg ht (fun h => kt ((show nI b ≤ nI a ↔ b ≤ a from nI_leI hbb ha).mp h)) (fun h => kf (fun q => h ((show nI b ≤ nI a ↔ b ≤ a from nI_leI hbb ha).mpr q)))
theorem zv_icmp_ge (hx : p.tables.exec = Jvm.exec) (hb : c.code = cc) {a b : Int} (ha : -2147483648 ≤ a ∧ a < 2147483648) (hbb : -2147483648 ≤ b ∧ b < 2147483648) {off : Int} {tgt : Nat} (hdg : decode cc pc = .ok (.if_icmp .ge off, 3)) (ht : (pc : Int) + off = (tgt : Int)) (kt : b ≤ a → W p l e R s m args below meth c H locs cells slots Q (F0 m tgt ls rest)) (kf : ¬ b ≤ a → W p l e R s m args below meth c H locs cells slots Q (F0 m (pc + 3) ls rest)) : W p l e R s m args below meth c H locs cells slots Q (F0 m pc ls (.int (zI b) :: .int (zI a) :: rest)) :=
  lv_icmp_ge hx hb hdg ht (fun h => kt ((show zI b ≤ zI a ↔ b ≤ a from zI_le hbb ha).mp h)) (fun h => kf (fun q => h ((show zI b ≤ zI a ↔ b ≤ a from zI_le hbb ha).mpr q)))
theorem nv_if_ge (hx : p.tables.exec = Jvm.exec) (hb : c.code = cc) {a : Nat} (ha : a < 2147483648) {off : Int} {tgt : Nat} (hdg : decode cc pc = .ok (.ifCond .ge off, 3)) (ht : (pc : Int) + off = (tgt : Int)) (kt : 0 ≤ a → W p l e R s m args below meth c H locs cells slots Q (F0 m tgt ls rest)) (kf : ¬ 0 ≤ a → W p l e R s m args below meth c H locs cells slots Q (F0 m (pc + 3) ls rest)) : W p l e R s m args below meth c H locs cells slots Q (F0 m pc ls (.int (nI a) :: rest)) :=
  lv_if_ge hx hb hdg ht (fun h => kt ((show 0 ≤ nI a ↔ 0 ≤ a from nI_leI (show (0 : Nat) < 2147483648 by decide) ha).mp h)) (fun h => kf (fun q => h ((show 0 ≤ nI a ↔ 0 ≤ a from nI_leI (show (0 : Nat) < 2147483648 by decide) ha).mpr q)))
theorem zv_if_ge (hx : p.tables.exec = Jvm.exec) (hb : c.code = cc) {a : Int} (ha : -2147483648 ≤ a ∧ a < 2147483648) {off : Int} {tgt : Nat} (hdg : decode cc pc = .ok (.ifCond .ge off, 3)) (ht : (pc : Int) + off = (tgt : Int)) (kt : 0 ≤ a → W p l e R s m args below meth c H locs cells slots Q (F0 m tgt ls rest)) (kf : ¬ 0 ≤ a → W p l e R s m args below meth c H locs cells slots Q (F0 m (pc + 3) ls rest)) : W p l e R s m args below meth c H locs cells slots Q (F0 m pc ls (.int (zI a) :: rest)) :=
  lv_if_ge hx hb hdg ht (fun h => kt ((show 0 ≤ zI a ↔ 0 ≤ a from zI_le (show (-2147483648 : Int) ≤ 0 ∧ (0 : Int) < 2147483648 by decide) ha).mp h)) (fun h => kf (fun q => h ((show 0 ≤ zI a ↔ 0 ≤ a from zI_le (show (-2147483648 : Int) ≤ 0 ∧ (0 : Int) < 2147483648 by decide) ha).mpr q)))
theorem nv_icmp_eq (hx : p.tables.exec = Jvm.exec) (hb : c.code = cc) {a b : Nat} (ha : a < 2147483648) (hbb : b < 2147483648) {off : Int} {tgt : Nat} (hdg : decode cc pc = .ok (.if_icmp .eq off, 3)) (ht : (pc : Int) + off = (tgt : Int)) (kt : a = b → W p l e R s m args below meth c H locs cells slots Q (F0 m tgt ls rest)) (kf : ¬ a = b → W p l e R s m args below meth c H locs cells slots Q (F0 m (pc + 3) ls rest)) : W p l e R s m args below meth c H locs cells slots Q (F0 m pc ls (.int (nI b) :: .int (nI a) :: rest)) :=
  lv_icmp_eq hx hb hdg ht (fun h => kt ((show nI a = nI b ↔ a = b from nI_eq ha hbb).mp h)) (fun h => kf (fun q => h ((show nI a = nI b ↔ a = b from nI_eq ha hbb).mpr q)))
theorem zv_icmp_eq (hx : p.tables.exec = Jvm.exec) (hb : c.code = cc) {a b : Int} (ha : -2147483648 ≤ a ∧ a < 2147483648) (hbb : -2147483648 ≤ b ∧ b < 2147483648) {off : Int} {tgt : Nat} (hdg : decode cc pc = .ok (.if_icmp .eq off, 3)) (ht : (pc : Int) + off = (tgt : Int)) (kt : a = b → W p l e R s m args below meth c H locs cells slots Q (F0 m tgt ls rest)) (kf : ¬ a = b → W p l e R s m args below meth c H locs cells slots Q (F0 m (pc + 3) ls rest)) : W p l e R s m args below meth c H locs cells slots Q (F0 m pc ls (.int (zI b) :: .int (zI a) :: rest)) :=
  lv_icmp_eq hx hb hdg ht (fun h => kt ((show zI a = zI b ↔ a = b from zI_eq ha hbb).mp h)) (fun h => kf (fun q => h ((show zI a = zI b ↔ a = b from zI_eq ha hbb).mpr q)))
theorem nv_if_eq (hx : p.tables.exec = Jvm.exec) (hb : c.code = cc) {a : Nat} (ha : a < 2147483648) {off : Int} {tgt : Nat} (hdg : decode cc pc = .ok (.ifCond .eq off, 3)) (ht : (pc : Int) + off = (tgt : Int)) (kt : a = 0 → W p l e R s m args below meth c H locs cells slots Q (F0 m tgt ls rest)) (kf : ¬ a = 0 → W p l e R s m args below meth c H locs cells slots Q (F0 m (pc + 3) ls rest)) : W p l e R s m args below meth c H locs cells slots Q (F0 m pc ls (.int (nI a) :: rest)) :=
  lv_if_eq hx hb hdg ht (fun h => kt ((show nI a = 0 ↔ a = 0 from nI_eq ha (show (0 : Nat) < 2147483648 by decide)).mp h)) (fun h => kf (fun q => h ((show nI a = 0 ↔ a = 0 from nI_eq ha (show (0 : Nat) < 2147483648 by decide)).mpr q)))
theorem zv_if_eq (hx : p.tables.exec = Jvm.exec) (hb : c.code = cc) {a : Int} (ha : -2147483648 ≤ a ∧ a < 2147483648) {off : Int} {tgt : Nat} (hdg : decode cc pc = .ok (.ifCond .eq off, 3)) (ht : (pc : Int) + off = (tgt : Int)) (kt : a = 0 → W p l e R s m args below meth c H locs cells slots Q (F0 m tgt ls rest)) (kf : ¬ a = 0 → W p l e R s m args below meth c H locs cells slots Q (F0 m (pc + 3) ls rest)) : W p l e R s m args below meth c H locs cells slots Q (F0 m pc ls (.int (zI a) :: rest)) :=
  lv_if_eq hx hb hdg ht (fun h => kt ((show zI a = 0 ↔ a = 0 from zI_eq ha (show (-2147483648 : Int) ≤ 0 ∧ (0 : Int) < 2147483648 by decide)).mp h)) (fun h => kf (fun q => h ((show zI a = 0 ↔ a = 0 from zI_eq ha (show (-2147483648 : Int) ≤ 0 ∧ (0 : Int) < 2147483648 by decide)).mpr q)))
theorem nv_icmp_ne (hx : p.tables.exec = Jvm.exec) (hb : c.code = cc) {a b : Nat} (ha : a < 2147483648) (hbb : b < 2147483648) {off : Int} {tgt : Nat} (hdg : decode cc pc = .ok (.if_icmp .ne off, 3)) (ht : (pc : Int) + off = (tgt : Int)) (kt : ¬ a = b → W p l e R s m args below meth c H locs cells slots Q (F0 m tgt ls rest)) (kf : a = b → W p l e R s m args below meth c H locs cells slots Q (F0 m (pc + 3) ls rest)) : W p l e R s m args below meth c H locs cells slots Q (F0 m pc ls (.int (nI b) :: .int (nI a) :: rest)) :=
  lv_icmp_ne hx hb hdg ht (fun h => kt (fun q => h ((show nI a = nI b ↔ a = b from nI_eq ha hbb).mpr q))) (fun h => kf ((show nI a = nI b ↔ a = b from nI_eq ha hbb).mp h))
theorem zv_icmp_ne (hx : p.tables.exec = Jvm.exec) (hb : c.code = cc) {a b : Int} (ha : -2147483648 ≤ a ∧ a < 2147483648) (hbb : -2147483648 ≤ b ∧ b < 2147483648) {off : Int} {tgt : Nat} (hdg : decode cc pc = .ok (.if_icmp .ne off, 3)) (ht : (pc : Int) + off = (tgt : Int)) (kt : ¬ a = b → W p l e R s m args below meth c H locs cells slots Q (F0 m tgt ls rest)) (kf : a = b → W p l e R s m args below meth c H locs cells slots Q (F0 m (pc + 3) ls rest)) : W p l e R s m args below meth c H locs cells slots Q (F0 m pc ls (.int (zI b) :: .int (zI a) :: rest)) :=
  lv_icmp_ne hx hb hdg ht (fun h => kt (fun q => h ((show zI a = zI b ↔ a = b from zI_eq ha hbb).mpr q))) (fun h => kf ((show zI a = zI b ↔ a = b from zI_eq ha hbb).mp h))
theorem nv_if_ne (hx : p.tables.exec = Jvm.exec) (hb : c.code = cc) {a : Nat} (ha : a < 2147483648) {off : Int} {tgt : Nat} (hdg : decode cc pc = .ok (.ifCond .ne off, 3)) (ht : (pc : Int) + off = (tgt : Int)) (kt : ¬ a = 0 → W p l e R s m args below meth c H locs cells slots Q (F0 m tgt ls rest)) (kf : a = 0 → W p l e R s m args below meth c H locs cells slots Q (F0 m (pc + 3) ls rest)) : W p l e R s m args below meth c H locs cells slots Q (F0 m pc ls (.int (nI a) :: rest)) :=
  lv_if_ne hx hb hdg ht (fun h => kt (fun q => h ((show nI a = 0 ↔ a = 0 from nI_eq ha (show (0 : Nat) < 2147483648 by decide)).mpr q))) (fun h => kf ((show nI a = 0 ↔ a = 0 from nI_eq ha (show (0 : Nat) < 2147483648 by decide)).mp h))
theorem zv_if_ne (hx : p.tables.exec = Jvm.exec) (hb : c.code = cc) {a : Int} (ha : -2147483648 ≤ a ∧ a < 2147483648) {off : Int} {tgt : Nat} (hdg : decode cc pc = .ok (.ifCond .ne off, 3)) (ht : (pc : Int) + off = (tgt : Int)) (kt : ¬ a = 0 → W p l e R s m args below meth c H locs cells slots Q (F0 m tgt ls rest)) (kf : a = 0 → W p l e R s m args below meth c H locs cells slots Q (F0 m (pc + 3) ls rest)) : W p l e R s m args below meth c H locs cells slots Q (F0 m pc ls (.int (zI a) :: rest)) :=
  lv_if_ne hx hb hdg ht (fun h => kt (fun q => h ((show zI a = 0 ↔ a = 0 from zI_eq ha (show (-2147483648 : Int) ≤ 0 ∧ (0 : Int) < 2147483648 by decide)).mpr q))) (fun h => kf ((show zI a = 0 ↔ a = 0 from zI_eq ha (show (-2147483648 : Int) ≤ 0 ∧ (0 : Int) < 2147483648 by decide)).mp h))
end BASE

/-! contracts over a world: what is given beside the cells is X, with the cells that may change -/
def am_ok (X : (Nat → Prop) → State → Heap → Prop) : Prop :=
  (∀ (A : Nat → Prop) (u U : State) (H : Heap), u.vm.Alike U.vm → X A u H → X A U H) ∧ (∀ (A : Nat → Prop) (U : State) (H H1 : Heap), X A U H → (∀ a : Nat, a < H.size → ¬ A a → H1[a]? = H[a]?) → X A U H1) ∧ ∀ (A B : Nat → Prop) (U : State) (H : Heap), X A U H → (∀ q, B q → A q) → X B U H
def am_no : (Nat → Prop) → State → Heap → Prop := fun _ _ _ => True
theorem am_no_ok : am_ok am_no := ⟨fun _ _ _ _ _ _ => trivial, fun _ _ _ _ _ _ => trivial, fun _ _ _ _ _ _ => trivial⟩
theorem am_ofF {l : Launch} {y : MethodName} {ws ws' : List Cond} {rm : Room} {Pc : Array Value → State → Prop} {Qc : Array Value → State → Outcome → State → Prop} {mc ms : Nat} {free : Addr → Prop} {cc : ByteArray} {maxL : Nat} {ret : Option FieldType}
    (hy : plainFor y = true) (hw : ws = Cond.code y cc maxL ret :: ws')
    (body : ∀ p e s m args below meth c s₁, BodyLoose p l y (headSpec ws rm) cc maxL ret e s m args below meth c s₁ → c.maxLocals = maxL → Pc args s →
      W p l e (headSpec ws rm).room s m args below meth c s.heap [] 0 0 (MQ below Qc args s mc ms free) (entryFrame m args maxL)) : Met l y ws rm Pc Qc mc ms free := by
  refine MetFree.of_bodySF (code := cc) (maxLocals := maxL) (ret := ret) hy ?_ ?_
  · intro args s m h hn
    obtain ⟨meth, c, h1, h2, h3, h4, h5, h6, -, -⟩ := Cond.code_spec hn (atoms_spec (ws := ws) h _ (by rw [hw]; exact List.mem_cons_self))
    exact ⟨meth, c, h1, h2, h3, h4, h5, h6⟩
  · intro p e s m args below meth c s₁ B hml hP _
    have hh0 : s₁.heap = s.heap := by rw [B.state]; rfl
    obtain ⟨t, a1, o, b1, b2, b3⟩ := body p e s m args below meth c s₁ B hml hP s₁ hh0 (Stand.of_body B)
    exact ⟨t, o, a1, b1, b2, ⟨b3.1, b3.2⟩⟩
def am_pre (X : (Nat → Prop) → State → Heap → Prop) (D : va_G) (tys : List (ClassId × FieldType)) (wc : va_W) (sz : Nat) (U : State) : Prop := U.heap.size = sz ∧ va_P D vwCl wc U.heap ∧ va_K D vwCl tys U ∧ va_D (fun _ => True) wc ∧ X (va_A wc sz) U U.heap
def am_post (D : va_G) (tys : List (ClassId × FieldType)) (wc : va_W) (sz : Nat) {S : Type} (wv : S → va_W) (u : S) (t : State) : Prop := va_P D vwCl (wv u) t.heap ∧ va_K D vwCl tys t ∧ va_D (va_A wc sz) (wv u)
theorem am_blind {X : (Nat → Prop) → State → Heap → Prop} (hok : am_ok X) {D : va_G} {tys : List (ClassId × FieldType)} {wc : va_W} {sz : Nat} {As : List Value} : FrameBlind (va_Pc As (am_pre X D tys wc sz)) := fun a U g mk q => by
  obtain ⟨q0, q1, qP, qK, qD, qX⟩ := q
  exact ⟨q0, q1, qP, va_K.moved (u := U) (U := U.calling g mk a) (Vm.Alike.refl U.vm) qK, qD, hok.1 _ U (U.calling g mk a) U.heap (Vm.Alike.refl U.vm) qX⟩

def CTi (l : Launch) (y : MethodName) (ws : List Cond) (rm : Room) (D : va_G) (tys : List (ClassId × FieldType)) (X : (Nat → Prop) → State → Heap → Prop) (As : List Value) (wc : va_W) {S : Type} (post : Int32 → S → Prop) (wv : S → va_W) : Prop :=
  ∀ sz : Nat, Met l y ws rm (va_Pc As (am_pre X D tys wc sz)) (va_Qi post (am_post D tys wc sz wv) (va_A wc sz)) 0 0 (va_A wc sz)
def CTl (l : Launch) (y : MethodName) (ws : List Cond) (rm : Room) (D : va_G) (tys : List (ClassId × FieldType)) (X : (Nat → Prop) → State → Heap → Prop) (As : List Value) (wc : va_W) {S : Type} (post : Int64 → S → Prop) (wv : S → va_W) : Prop :=
  ∀ sz : Nat, Met l y ws rm (va_Pc As (am_pre X D tys wc sz)) (va_Ql post (am_post D tys wc sz wv) (va_A wc sz)) 0 0 (va_A wc sz)
def CTv (l : Launch) (y : MethodName) (ws : List Cond) (rm : Room) (D : va_G) (tys : List (ClassId × FieldType)) (X : (Nat → Prop) → State → Heap → Prop) (As : List Value) (wc : va_W) {S : Type} (post : S → Prop) (wv : S → va_W) : Prop :=
  ∀ sz : Nat, Met l y ws rm (va_Pc As (am_pre X D tys wc sz)) (va_Qv post (am_post D tys wc sz wv) (va_A wc sz)) 0 0 (va_A wc sz)
theorem CTi_of {l : Launch} {y : MethodName} {ws ws' : List Cond} {rm : Room} {D : va_G} {tys : List (ClassId × FieldType)} {X : (Nat → Prop) → State → Heap → Prop} {As : List Value} {wc : va_W} {S : Type} {post : Int32 → S → Prop} {wv : S → va_W} {cc : ByteArray} {maxL : Nat} (hy : plainFor y = true) (hw : ws = Cond.code y cc maxL (some .int) :: ws') (hlen : (lg_sl As).length ≤ maxL)
    (body : ∀ (p : Program) (e : Env) (s : State) (m : MethodId) (args : Array Value) (below : List Frame) (meth : Method) (c : Code) (A : Nat → Prop) (Q : State → Prop) (ls : Array Slot) (H : Heap) (locs : List Loc), p.tables.exec = Jvm.exec → c.code = cc → (∀ w ∈ ws, w.before args s = true) → s.vm.findClass y.cls = some m.cls → c.maxLocals = maxL → va_P D vwCl wc H → va_K D vwCl tys s → va_D A wc → va_S A s.heap H locs → (∀ q, s.heap.size ≤ q → A q) → X A s s.heap → lv_has ls maxL (lv_args 0 As) →
      (∀ (H : Heap) (locs : List Loc) (pc : Nat) (ls : Array Slot) (r : Int32) (u : S), post r u → va_P D vwCl (wv u) H → va_D A (wv u) → va_S A s.heap H locs → decode cc pc = .ok (.ireturn, 1) → W p l e rm s m args below meth c H locs 0 0 Q (F0 m pc ls [.int r])) →
      W p l e rm s m args below meth c H locs 0 0 Q (F0 m 0 ls [])) : CTi l y ws rm D tys X As wc post wv := by
  intro sz
  refine am_ofF (cc := cc) (maxL := maxL) (ret := some .int) hy hw ?_
  intro p e s m args below meth c s₁ B hml hv
  obtain ⟨rfl, hsz, hP, hK, hD0, hX⟩ := hv
  subst hsz
  rw [lg_entry_eq]
  exact body p e s m As.toArray below meth c (va_A wc s.heap.size) _ _ _ _ B.exec B.bytes (atoms_spec (ws := ws) B.pre) (findClass_of_methodNamed B.named) hml hP hK hD0.self va_S.rf (fun q h => Or.inr h) hX (lv_entry As hlen) (fun H locs pc ls r u hp hP hD hS hd => W.iret B.exec B.bytes B.returns (fun t ht hW => ⟨⟨r, u, rfl, hp, by rw [ht]; exact hP, va_K.moved hW.alike hK, hD⟩, hS.F ht⟩) hS.2.2 hd (hlocks := B.notSynchronized))
theorem CTz_of {l : Launch} {y : MethodName} {ws ws' : List Cond} {rm : Room} {D : va_G} {tys : List (ClassId × FieldType)} {X : (Nat → Prop) → State → Heap → Prop} {As : List Value} {wc : va_W} {S : Type} {post : Int32 → S → Prop} {wv : S → va_W} {cc : ByteArray} {maxL : Nat} (hy : plainFor y = true) (hw : ws = Cond.code y cc maxL (some .boolean) :: ws') (hlen : (lg_sl As).length ≤ maxL)
    (body : ∀ (p : Program) (e : Env) (s : State) (m : MethodId) (args : Array Value) (below : List Frame) (meth : Method) (c : Code) (A : Nat → Prop) (Q : State → Prop) (ls : Array Slot) (H : Heap) (locs : List Loc), p.tables.exec = Jvm.exec → c.code = cc → (∀ w ∈ ws, w.before args s = true) → s.vm.findClass y.cls = some m.cls → c.maxLocals = maxL → va_P D vwCl wc H → va_K D vwCl tys s → va_D A wc → va_S A s.heap H locs → (∀ q, s.heap.size ≤ q → A q) → X A s s.heap → lv_has ls maxL (lv_args 0 As) →
      (∀ (H : Heap) (locs : List Loc) (pc : Nat) (ls : Array Slot) (r : Int32) (u : S) (hn : narrow .boolean (.int r) = .int r), post r u → va_P D vwCl (wv u) H → va_D A (wv u) → va_S A s.heap H locs → decode cc pc = .ok (.ireturn, 1) → W p l e rm s m args below meth c H locs 0 0 Q (F0 m pc ls [.int r])) →
      W p l e rm s m args below meth c H locs 0 0 Q (F0 m 0 ls [])) : CTi l y ws rm D tys X As wc post wv := by
  intro sz
  refine am_ofF (cc := cc) (maxL := maxL) (ret := some .boolean) hy hw ?_
  intro p e s m args below meth c s₁ B hml hv
  obtain ⟨rfl, hsz, hP, hK, hD0, hX⟩ := hv
  subst hsz
  rw [lg_entry_eq]
  exact body p e s m As.toArray below meth c (va_A wc s.heap.size) _ _ _ _ B.exec B.bytes (atoms_spec (ws := ws) B.pre) (findClass_of_methodNamed B.named) hml hP hK hD0.self va_S.rf (fun q h => Or.inr h) hX (lv_entry As hlen) (fun H locs pc ls r u hn hp hP hD hS hd => W.zret B.exec B.bytes B.returns hn (fun t ht hW => ⟨⟨r, u, rfl, hp, by rw [ht]; exact hP, va_K.moved hW.alike hK, hD⟩, hS.F ht⟩) hS.2.2 hd (hlocks := B.notSynchronized))
theorem CTl_of {l : Launch} {y : MethodName} {ws ws' : List Cond} {rm : Room} {D : va_G} {tys : List (ClassId × FieldType)} {X : (Nat → Prop) → State → Heap → Prop} {As : List Value} {wc : va_W} {S : Type} {post : Int64 → S → Prop} {wv : S → va_W} {cc : ByteArray} {maxL : Nat} (hy : plainFor y = true) (hw : ws = Cond.code y cc maxL (some .long) :: ws') (hlen : (lg_sl As).length ≤ maxL)
    (body : ∀ (p : Program) (e : Env) (s : State) (m : MethodId) (args : Array Value) (below : List Frame) (meth : Method) (c : Code) (A : Nat → Prop) (Q : State → Prop) (ls : Array Slot) (H : Heap) (locs : List Loc), p.tables.exec = Jvm.exec → c.code = cc → (∀ w ∈ ws, w.before args s = true) → s.vm.findClass y.cls = some m.cls → c.maxLocals = maxL → va_P D vwCl wc H → va_K D vwCl tys s → va_D A wc → va_S A s.heap H locs → (∀ q, s.heap.size ≤ q → A q) → X A s s.heap → lv_has ls maxL (lv_args 0 As) →
      (∀ (H : Heap) (locs : List Loc) (pc : Nat) (ls : Array Slot) (r : Int64) (u : S), post r u → va_P D vwCl (wv u) H → va_D A (wv u) → va_S A s.heap H locs → decode cc pc = .ok (.lreturn, 1) → W p l e rm s m args below meth c H locs 0 0 Q (F0 m pc ls [.long r])) →
      W p l e rm s m args below meth c H locs 0 0 Q (F0 m 0 ls [])) : CTl l y ws rm D tys X As wc post wv := by
  intro sz
  refine am_ofF (cc := cc) (maxL := maxL) (ret := some .long) hy hw ?_
  intro p e s m args below meth c s₁ B hml hv
  obtain ⟨rfl, hsz, hP, hK, hD0, hX⟩ := hv
  subst hsz
  rw [lg_entry_eq]
  exact body p e s m As.toArray below meth c (va_A wc s.heap.size) _ _ _ _ B.exec B.bytes (atoms_spec (ws := ws) B.pre) (findClass_of_methodNamed B.named) hml hP hK hD0.self va_S.rf (fun q h => Or.inr h) hX (lv_entry As hlen) (fun H locs pc ls r u hp hP hD hS hd => W.lret B.exec B.bytes B.returns (fun t ht hW => ⟨⟨r, u, rfl, hp, by rw [ht]; exact hP, va_K.moved hW.alike hK, hD⟩, hS.F ht⟩) hS.2.2 hd (hlocks := B.notSynchronized))
theorem CTv_of {l : Launch} {y : MethodName} {ws ws' : List Cond} {rm : Room} {D : va_G} {tys : List (ClassId × FieldType)} {X : (Nat → Prop) → State → Heap → Prop} {As : List Value} {wc : va_W} {S : Type} {post : S → Prop} {wv : S → va_W} {cc : ByteArray} {maxL : Nat} (hy : plainFor y = true) (hw : ws = Cond.code y cc maxL (none) :: ws') (hlen : (lg_sl As).length ≤ maxL)
    (body : ∀ (p : Program) (e : Env) (s : State) (m : MethodId) (args : Array Value) (below : List Frame) (meth : Method) (c : Code) (A : Nat → Prop) (Q : State → Prop) (ls : Array Slot) (H : Heap) (locs : List Loc), p.tables.exec = Jvm.exec → c.code = cc → (∀ w ∈ ws, w.before args s = true) → s.vm.findClass y.cls = some m.cls → c.maxLocals = maxL → va_P D vwCl wc H → va_K D vwCl tys s → va_D A wc → va_S A s.heap H locs → (∀ q, s.heap.size ≤ q → A q) → X A s s.heap → lv_has ls maxL (lv_args 0 As) →
      (∀ (H : Heap) (locs : List Loc) (pc : Nat) (ls : Array Slot) (u : S), post u → va_P D vwCl (wv u) H → va_D A (wv u) → va_S A s.heap H locs → decode cc pc = .ok (.return_, 1) → W p l e rm s m args below meth c H locs 0 0 Q (F0 m pc ls [])) →
      W p l e rm s m args below meth c H locs 0 0 Q (F0 m 0 ls [])) : CTv l y ws rm D tys X As wc post wv := by
  intro sz
  refine am_ofF (cc := cc) (maxL := maxL) (ret := none) hy hw ?_
  intro p e s m args below meth c s₁ B hml hv
  obtain ⟨rfl, hsz, hP, hK, hD0, hX⟩ := hv
  subst hsz
  rw [lg_entry_eq]
  exact body p e s m As.toArray below meth c (va_A wc s.heap.size) _ _ _ _ B.exec B.bytes (atoms_spec (ws := ws) B.pre) (findClass_of_methodNamed B.named) hml hP hK hD0.self va_S.rf (fun q h => Or.inr h) hX (lv_entry As hlen) (fun H locs pc ls u hp hP hD hS hd => W.vret B.exec B.bytes B.returns (fun t ht hW => ⟨⟨u, rfl, hp, by rw [ht]; exact hP, va_K.moved hW.alike hK, hD⟩, hS.F ht⟩) hS.2.2 hd (hlocks := B.notSynchronized))
section CALLS
variable {p : Program} {l : Launch} {e : Env} {R : Room} {s : State} {m : MethodId} {args : Array Value} {below : List Frame} {meth : Method} {c : Code} {H : Heap} {locs : List Loc} {cells slots : Nat} {Q : State → Prop}
variable {Ts ws : List Cond} {cc bytes : ByteArray} {nL maxL index n pc : Nat} {own C : String} {y : MethodName} {ret : Option FieldType} {rm : Room} {b : Addr} {As st0 rest : List Value} {ls : Array Slot}
variable {D : va_G} {tys tysW : List (ClassId × FieldType)} {X : (Nat → Prop) → State → Heap → Prop} {wsw wc wr : va_W} {A : Nat → Prop} {S : Type}
theorem am_sub {D : va_G} {cl : List vw_C} {ws wc : va_W} {H : Heap} (h : va_P D cl ws H) (isC : List Nat) (hC : isC.map (fun i => ws[i]?) = wc.map some) : va_P D cl wc H := by
  refine h.sub isC ?_
  have h1 : isC.filterMap (fun i => ws[i]?) = (isC.map (fun i => ws[i]?)).filterMap id := by rw [List.filterMap_map]; rfl
  rw [h1, hC, List.filterMap_map]
  simp

theorem CTi_Vw (hok : am_ok X) {post : Int32 → S → Prop} {wv : S → va_W} (S0 : CallFix p m c cc nL s args Ts own) (hC0 : CTi l y ws rm D tys X (.ref b :: As) wsw post wv) (cw : CallW R s args own C index y bytes maxL ret ws rm 0 0 n) (hKc : va_K D vwCl tys s) (hP : va_P D vwCl wsw H) (hD : va_D A wsw) (hS : va_S A s.heap H locs) (hA : ∀ q, s.heap.size ≤ q → A q) (hX : X A s s.heap) (hK : va_K D vwCl tysW s) (q0 ci : Nat) {fs : List Value} {vc : vw_C} (hrc : vwCl[ci]? = some vc) (hre : wsw[q0]? = some (b, .inr (ci, fs))) (hvc : vc.1 = C) (hn : As.length = n) (hsz : ls.size = nL) (hst : st0 = As.reverse ++ .ref b :: rest) (hW8 : (rest.map fun v => v.category).sum ≤ 8) (hroom : cells ≤ R.cells ∧ slots ≤ R.slots) (hdg : decode cc pc = .ok (.invokevirtual index, 3))
    (kk : ∀ (r : Int32) (u : S) (H1 : Heap) (locs1 : List Loc), post r u → va_P D vwCl (wv u) H1 → va_D A (wv u) → va_S A s.heap H1 locs1 → W p l e R s m args below meth c H1 locs1 cells slots Q (F0 m (pc + 3) ls (.int r :: rest))) : W p l e R s m args below meth c H locs cells slots Q (F0 m pc ls st0) := by
  have hPc := hP
  have hDc := hD
  have hF : ∀ q, va_A wsw H.size q → A q := fun q h => h.elim (fun ⟨k, e, hk⟩ => hD.2 k _ hk) (fun h => hA q (Nat.le_trans hS.1 h))
  have hXc : X (va_A wsw H.size) s H := hok.2.2 _ _ _ _ (hok.2.1 _ _ _ _ hX hS.2.1) hF
  have recv := va_recv hK hP hrc hre
  rw [hvc] at recv
  refine va_calli (va_runV (As := As) (rest := rest) S0 (hC0 H.size) cw ⟨am_blind hok, recv, fun U hU hW => ⟨rfl, by rw [hU], by rw [hU]; exact hPc, va_K.moved hW.alike hKc, hDc.weaken (fun _ _ _ _ => trivial), by rw [hU]; exact hok.1 _ _ _ _ hW.alike hXc⟩⟩ rfl hn hsz hst (lv_room hW8) hdg ⟨hroom.1, hroom.2⟩) hS (fun q _ h => hF q h) hF (fun r u t H1 locs1 ht hvm hw hB hz1 hk1 hS1 => ?_)
  obtain ⟨hP1, hK1, hD1⟩ := hB
  rw [ht] at hP1
  exact kk r u H1 locs1 hw hP1 (hD1.weaken (fun _ _ _ h => hF _ h)) hS1
theorem CTi_Vp (hok : am_ok X) {post : Int32 → S → Prop} {wv : S → va_W} (S0 : CallFix p m c cc nL s args Ts own) (hC0 : CTi l y ws rm D tys X (.ref b :: As) wc post wv) (cw : CallW R s args own C index y bytes maxL ret ws rm 0 0 n) (hKc : va_K D vwCl tys s) (hP : va_P D vwCl wsw H) (hD : va_D A wsw) (hS : va_S A s.heap H locs) (hA : ∀ q, s.heap.size ≤ q → A q) (hX : X A s s.heap) (hK : va_K D vwCl tysW s) (q0 ci : Nat) {fs : List Value} {vc : vw_C} (hrc : vwCl[ci]? = some vc) (hre : wsw[q0]? = some (b, .inr (ci, fs))) (hvc : vc.1 = C) (isC isR : List Nat) (hC : isC.map (fun i => wsw[i]?) = wc.map some) (hR : isR.map (fun i => wsw[i]?) = (isR.filterMap (fun i => wsw[i]?)).map some) (hndC : va_nd isC = true) (hn9 : va_nd isR = true) (hdis : ∀ i ∈ isR, i ∉ isC) (hn : As.length = n) (hsz : ls.size = nL) (hst : st0 = As.reverse ++ .ref b :: rest) (hW8 : (rest.map fun v => v.category).sum ≤ 8) (hroom : cells ≤ R.cells ∧ slots ≤ R.slots) (hdg : decode cc pc = .ok (.invokevirtual index, 3))
    (kk : ∀ (r : Int32) (u : S) (H1 : Heap) (locs1 : List Loc), post r u → va_P D vwCl ((isR.filterMap (fun i => wsw[i]?)) ++ wv u) H1 → va_D A ((isR.filterMap (fun i => wsw[i]?)) ++ wv u) → va_S A s.heap H1 locs1 → W p l e R s m args below meth c H1 locs1 cells slots Q (F0 m (pc + 3) ls (.int r :: rest))) : W p l e R s m args below meth c H locs cells slots Q (F0 m pc ls st0) := by
  have hPc := am_sub hP isC hC
  have hDc := hD.sub isC hndC hC
  have hF := va_free hD hS hA isC hC
  have hXc : X (va_A wc H.size) s H := hok.2.2 _ _ _ _ (hok.2.1 _ _ _ _ hX hS.2.1) hF
  have recv := va_recv hK hP hrc hre
  rw [hvc] at recv
  refine va_calli (va_runV (As := As) (rest := rest) S0 (hC0 H.size) cw ⟨am_blind hok, recv, fun U hU hW => ⟨rfl, by rw [hU], by rw [hU]; exact hPc, va_K.moved hW.alike hKc, hDc.weaken (fun _ _ _ _ => trivial), by rw [hU]; exact hok.1 _ _ _ _ hW.alike hXc⟩⟩ rfl hn hsz hst (lv_room hW8) hdg ⟨hroom.1, hroom.2⟩) hS (fun q _ h => hF q h) hF (fun r u t H1 locs1 ht hvm hw hB hz1 hk1 hS1 => ?_)
  obtain ⟨hP1, hK1, hD1⟩ := hB
  rw [ht] at hP1
  obtain ⟨hP2, hD2⟩ := va_join (wr := isR.filterMap (fun i => wsw[i]?)) (w1 := wv u) hP hD isC isR hC hR hn9 hdis hk1 hF hP1 hD1
  exact kk r u H1 locs1 hw hP2 hD2 hS1
theorem CTi_Sw (hok : am_ok X) {post : Int32 → S → Prop} {wv : S → va_W} (S0 : CallFix p m c cc nL s args Ts own) (hC0 : CTi l y ws rm D tys X As wsw post wv) (cw : CallB R s args own index y bytes maxL ret ws rm 0 0 n ∧ (Cond.static y).before args s = true) (hKc : va_K D vwCl tys s) (hP : va_P D vwCl wsw H) (hD : va_D A wsw) (hS : va_S A s.heap H locs) (hA : ∀ q, s.heap.size ≤ q → A q) (hX : X A s s.heap) (hn : As.length = n) (hsz : ls.size = nL) (hst : st0 = As.reverse ++ rest) (hW8 : (rest.map fun v => v.category).sum ≤ 8) (hroom : cells ≤ R.cells ∧ slots ≤ R.slots) (hdg : decode cc pc = .ok (.invokestatic index, 3))
    (kk : ∀ (r : Int32) (u : S) (H1 : Heap) (locs1 : List Loc), post r u → va_P D vwCl (wv u) H1 → va_D A (wv u) → va_S A s.heap H1 locs1 → W p l e R s m args below meth c H1 locs1 cells slots Q (F0 m (pc + 3) ls (.int r :: rest))) : W p l e R s m args below meth c H locs cells slots Q (F0 m pc ls st0) := by
  have hPc := hP
  have hDc := hD
  have hF : ∀ q, va_A wsw H.size q → A q := fun q h => h.elim (fun ⟨k, e, hk⟩ => hD.2 k _ hk) (fun h => hA q (Nat.le_trans hS.1 h))
  have hXc : X (va_A wsw H.size) s H := hok.2.2 _ _ _ _ (hok.2.1 _ _ _ _ hX hS.2.1) hF
  refine va_calli (va_runS (As := As) (rest := rest) S0 (hC0 H.size) cw ⟨am_blind hok, fun U hU hW => ⟨rfl, by rw [hU], by rw [hU]; exact hPc, va_K.moved hW.alike hKc, hDc.weaken (fun _ _ _ _ => trivial), by rw [hU]; exact hok.1 _ _ _ _ hW.alike hXc⟩⟩ rfl hn hsz hst (lv_room hW8) hdg ⟨hroom.1, hroom.2⟩) hS (fun q _ h => hF q h) hF (fun r u t H1 locs1 ht hvm hw hB hz1 hk1 hS1 => ?_)
  obtain ⟨hP1, hK1, hD1⟩ := hB
  rw [ht] at hP1
  exact kk r u H1 locs1 hw hP1 (hD1.weaken (fun _ _ _ h => hF _ h)) hS1
theorem CTi_Sp (hok : am_ok X) {post : Int32 → S → Prop} {wv : S → va_W} (S0 : CallFix p m c cc nL s args Ts own) (hC0 : CTi l y ws rm D tys X As wc post wv) (cw : CallB R s args own index y bytes maxL ret ws rm 0 0 n ∧ (Cond.static y).before args s = true) (hKc : va_K D vwCl tys s) (hP : va_P D vwCl wsw H) (hD : va_D A wsw) (hS : va_S A s.heap H locs) (hA : ∀ q, s.heap.size ≤ q → A q) (hX : X A s s.heap) (isC isR : List Nat) (hC : isC.map (fun i => wsw[i]?) = wc.map some) (hR : isR.map (fun i => wsw[i]?) = (isR.filterMap (fun i => wsw[i]?)).map some) (hndC : va_nd isC = true) (hn9 : va_nd isR = true) (hdis : ∀ i ∈ isR, i ∉ isC) (hn : As.length = n) (hsz : ls.size = nL) (hst : st0 = As.reverse ++ rest) (hW8 : (rest.map fun v => v.category).sum ≤ 8) (hroom : cells ≤ R.cells ∧ slots ≤ R.slots) (hdg : decode cc pc = .ok (.invokestatic index, 3))
    (kk : ∀ (r : Int32) (u : S) (H1 : Heap) (locs1 : List Loc), post r u → va_P D vwCl ((isR.filterMap (fun i => wsw[i]?)) ++ wv u) H1 → va_D A ((isR.filterMap (fun i => wsw[i]?)) ++ wv u) → va_S A s.heap H1 locs1 → W p l e R s m args below meth c H1 locs1 cells slots Q (F0 m (pc + 3) ls (.int r :: rest))) : W p l e R s m args below meth c H locs cells slots Q (F0 m pc ls st0) := by
  have hPc := am_sub hP isC hC
  have hDc := hD.sub isC hndC hC
  have hF := va_free hD hS hA isC hC
  have hXc : X (va_A wc H.size) s H := hok.2.2 _ _ _ _ (hok.2.1 _ _ _ _ hX hS.2.1) hF
  refine va_calli (va_runS (As := As) (rest := rest) S0 (hC0 H.size) cw ⟨am_blind hok, fun U hU hW => ⟨rfl, by rw [hU], by rw [hU]; exact hPc, va_K.moved hW.alike hKc, hDc.weaken (fun _ _ _ _ => trivial), by rw [hU]; exact hok.1 _ _ _ _ hW.alike hXc⟩⟩ rfl hn hsz hst (lv_room hW8) hdg ⟨hroom.1, hroom.2⟩) hS (fun q _ h => hF q h) hF (fun r u t H1 locs1 ht hvm hw hB hz1 hk1 hS1 => ?_)
  obtain ⟨hP1, hK1, hD1⟩ := hB
  rw [ht] at hP1
  obtain ⟨hP2, hD2⟩ := va_join (wr := isR.filterMap (fun i => wsw[i]?)) (w1 := wv u) hP hD isC isR hC hR hn9 hdis hk1 hF hP1 hD1
  exact kk r u H1 locs1 hw hP2 hD2 hS1
theorem CTi_S0 (hok : am_ok X) {post : Int32 → S → Prop}  (S0 : CallFix p m c cc nL s args Ts own) (hC0 : CTi l y ws rm D tys X As [] post (fun _ => [])) (cw : CallB R s args own index y bytes maxL ret ws rm 0 0 n ∧ (Cond.static y).before args s = true) (hKc : va_K D vwCl tys s) (hP : va_P D vwCl wsw H) (hD : va_D A wsw) (hS : va_S A s.heap H locs) (hA : ∀ q, s.heap.size ≤ q → A q) (hX : X A s s.heap) (hn : As.length = n) (hsz : ls.size = nL) (hst : st0 = As.reverse ++ rest) (hW8 : (rest.map fun v => v.category).sum ≤ 8) (hroom : cells ≤ R.cells ∧ slots ≤ R.slots) (hdg : decode cc pc = .ok (.invokestatic index, 3))
    (kk : ∀ (r : Int32) (u : S) (H1 : Heap) (locs1 : List Loc), post r u → va_P D vwCl (wsw) H1 → va_D A (wsw) → va_S A s.heap H1 locs1 → W p l e R s m args below meth c H1 locs1 cells slots Q (F0 m (pc + 3) ls (.int r :: rest))) : W p l e R s m args below meth c H locs cells slots Q (F0 m pc ls st0) := by
  have hPc : va_P D vwCl [] H := fun k q h => by simp at h
  have hDc : va_D A [] := ⟨fun i j p q h => by simp at h, fun k q h => by simp at h⟩
  have hF : ∀ q, va_A [] H.size q → A q := fun q h => h.elim (fun ⟨k, e, hk⟩ => by simp at hk) (fun h => hA q (Nat.le_trans hS.1 h))
  have hXc : X (va_A [] H.size) s H := hok.2.2 _ _ _ _ (hok.2.1 _ _ _ _ hX hS.2.1) hF
  refine va_calli (va_runS (As := As) (rest := rest) S0 (hC0 H.size) cw ⟨am_blind hok, fun U hU hW => ⟨rfl, by rw [hU], by rw [hU]; exact hPc, va_K.moved hW.alike hKc, hDc.weaken (fun _ _ _ _ => trivial), by rw [hU]; exact hok.1 _ _ _ _ hW.alike hXc⟩⟩ rfl hn hsz hst (lv_room hW8) hdg ⟨hroom.1, hroom.2⟩) hS (fun q _ h => hF q h) hF (fun r u t H1 locs1 ht hvm hw hB hz1 hk1 hS1 => ?_)
  obtain ⟨hP1, hK1, hD1⟩ := hB
  rw [ht] at hP1
  exact kk r u H1 locs1 hw (hP.kept (fun k9 x h9 => hk1 _ (hP k9 x h9).lt (fun h => h.elim (fun ⟨k, e, hk⟩ => by simp at hk) (fun h => absurd ((hP k9 x h9).lt) (Nat.not_lt.mpr h))))) hD hS1
theorem CTl_Vw (hok : am_ok X) {post : Int64 → S → Prop} {wv : S → va_W} (S0 : CallFix p m c cc nL s args Ts own) (hC0 : CTl l y ws rm D tys X (.ref b :: As) wsw post wv) (cw : CallW R s args own C index y bytes maxL ret ws rm 0 0 n) (hKc : va_K D vwCl tys s) (hP : va_P D vwCl wsw H) (hD : va_D A wsw) (hS : va_S A s.heap H locs) (hA : ∀ q, s.heap.size ≤ q → A q) (hX : X A s s.heap) (hK : va_K D vwCl tysW s) (q0 ci : Nat) {fs : List Value} {vc : vw_C} (hrc : vwCl[ci]? = some vc) (hre : wsw[q0]? = some (b, .inr (ci, fs))) (hvc : vc.1 = C) (hn : As.length = n) (hsz : ls.size = nL) (hst : st0 = As.reverse ++ .ref b :: rest) (hW8 : (rest.map fun v => v.category).sum ≤ 8) (hroom : cells ≤ R.cells ∧ slots ≤ R.slots) (hdg : decode cc pc = .ok (.invokevirtual index, 3))
    (kk : ∀ (r : Int64) (u : S) (H1 : Heap) (locs1 : List Loc), post r u → va_P D vwCl (wv u) H1 → va_D A (wv u) → va_S A s.heap H1 locs1 → W p l e R s m args below meth c H1 locs1 cells slots Q (F0 m (pc + 3) ls (.long r :: rest))) : W p l e R s m args below meth c H locs cells slots Q (F0 m pc ls st0) := by
  have hPc := hP
  have hDc := hD
  have hF : ∀ q, va_A wsw H.size q → A q := fun q h => h.elim (fun ⟨k, e, hk⟩ => hD.2 k _ hk) (fun h => hA q (Nat.le_trans hS.1 h))
  have hXc : X (va_A wsw H.size) s H := hok.2.2 _ _ _ _ (hok.2.1 _ _ _ _ hX hS.2.1) hF
  have recv := va_recv hK hP hrc hre
  rw [hvc] at recv
  refine va_calll (va_runV (As := As) (rest := rest) S0 (hC0 H.size) cw ⟨am_blind hok, recv, fun U hU hW => ⟨rfl, by rw [hU], by rw [hU]; exact hPc, va_K.moved hW.alike hKc, hDc.weaken (fun _ _ _ _ => trivial), by rw [hU]; exact hok.1 _ _ _ _ hW.alike hXc⟩⟩ rfl hn hsz hst (lv_room hW8) hdg ⟨hroom.1, hroom.2⟩) hS (fun q _ h => hF q h) hF (fun r u t H1 locs1 ht hvm hw hB hz1 hk1 hS1 => ?_)
  obtain ⟨hP1, hK1, hD1⟩ := hB
  rw [ht] at hP1
  exact kk r u H1 locs1 hw hP1 (hD1.weaken (fun _ _ _ h => hF _ h)) hS1
theorem CTl_Vp (hok : am_ok X) {post : Int64 → S → Prop} {wv : S → va_W} (S0 : CallFix p m c cc nL s args Ts own) (hC0 : CTl l y ws rm D tys X (.ref b :: As) wc post wv) (cw : CallW R s args own C index y bytes maxL ret ws rm 0 0 n) (hKc : va_K D vwCl tys s) (hP : va_P D vwCl wsw H) (hD : va_D A wsw) (hS : va_S A s.heap H locs) (hA : ∀ q, s.heap.size ≤ q → A q) (hX : X A s s.heap) (hK : va_K D vwCl tysW s) (q0 ci : Nat) {fs : List Value} {vc : vw_C} (hrc : vwCl[ci]? = some vc) (hre : wsw[q0]? = some (b, .inr (ci, fs))) (hvc : vc.1 = C) (isC isR : List Nat) (hC : isC.map (fun i => wsw[i]?) = wc.map some) (hR : isR.map (fun i => wsw[i]?) = (isR.filterMap (fun i => wsw[i]?)).map some) (hndC : va_nd isC = true) (hn9 : va_nd isR = true) (hdis : ∀ i ∈ isR, i ∉ isC) (hn : As.length = n) (hsz : ls.size = nL) (hst : st0 = As.reverse ++ .ref b :: rest) (hW8 : (rest.map fun v => v.category).sum ≤ 8) (hroom : cells ≤ R.cells ∧ slots ≤ R.slots) (hdg : decode cc pc = .ok (.invokevirtual index, 3))
    (kk : ∀ (r : Int64) (u : S) (H1 : Heap) (locs1 : List Loc), post r u → va_P D vwCl ((isR.filterMap (fun i => wsw[i]?)) ++ wv u) H1 → va_D A ((isR.filterMap (fun i => wsw[i]?)) ++ wv u) → va_S A s.heap H1 locs1 → W p l e R s m args below meth c H1 locs1 cells slots Q (F0 m (pc + 3) ls (.long r :: rest))) : W p l e R s m args below meth c H locs cells slots Q (F0 m pc ls st0) := by
  have hPc := am_sub hP isC hC
  have hDc := hD.sub isC hndC hC
  have hF := va_free hD hS hA isC hC
  have hXc : X (va_A wc H.size) s H := hok.2.2 _ _ _ _ (hok.2.1 _ _ _ _ hX hS.2.1) hF
  have recv := va_recv hK hP hrc hre
  rw [hvc] at recv
  refine va_calll (va_runV (As := As) (rest := rest) S0 (hC0 H.size) cw ⟨am_blind hok, recv, fun U hU hW => ⟨rfl, by rw [hU], by rw [hU]; exact hPc, va_K.moved hW.alike hKc, hDc.weaken (fun _ _ _ _ => trivial), by rw [hU]; exact hok.1 _ _ _ _ hW.alike hXc⟩⟩ rfl hn hsz hst (lv_room hW8) hdg ⟨hroom.1, hroom.2⟩) hS (fun q _ h => hF q h) hF (fun r u t H1 locs1 ht hvm hw hB hz1 hk1 hS1 => ?_)
  obtain ⟨hP1, hK1, hD1⟩ := hB
  rw [ht] at hP1
  obtain ⟨hP2, hD2⟩ := va_join (wr := isR.filterMap (fun i => wsw[i]?)) (w1 := wv u) hP hD isC isR hC hR hn9 hdis hk1 hF hP1 hD1
  exact kk r u H1 locs1 hw hP2 hD2 hS1
theorem CTl_Sw (hok : am_ok X) {post : Int64 → S → Prop} {wv : S → va_W} (S0 : CallFix p m c cc nL s args Ts own) (hC0 : CTl l y ws rm D tys X As wsw post wv) (cw : CallB R s args own index y bytes maxL ret ws rm 0 0 n ∧ (Cond.static y).before args s = true) (hKc : va_K D vwCl tys s) (hP : va_P D vwCl wsw H) (hD : va_D A wsw) (hS : va_S A s.heap H locs) (hA : ∀ q, s.heap.size ≤ q → A q) (hX : X A s s.heap) (hn : As.length = n) (hsz : ls.size = nL) (hst : st0 = As.reverse ++ rest) (hW8 : (rest.map fun v => v.category).sum ≤ 8) (hroom : cells ≤ R.cells ∧ slots ≤ R.slots) (hdg : decode cc pc = .ok (.invokestatic index, 3))
    (kk : ∀ (r : Int64) (u : S) (H1 : Heap) (locs1 : List Loc), post r u → va_P D vwCl (wv u) H1 → va_D A (wv u) → va_S A s.heap H1 locs1 → W p l e R s m args below meth c H1 locs1 cells slots Q (F0 m (pc + 3) ls (.long r :: rest))) : W p l e R s m args below meth c H locs cells slots Q (F0 m pc ls st0) := by
  have hPc := hP
  have hDc := hD
  have hF : ∀ q, va_A wsw H.size q → A q := fun q h => h.elim (fun ⟨k, e, hk⟩ => hD.2 k _ hk) (fun h => hA q (Nat.le_trans hS.1 h))
  have hXc : X (va_A wsw H.size) s H := hok.2.2 _ _ _ _ (hok.2.1 _ _ _ _ hX hS.2.1) hF
  refine va_calll (va_runS (As := As) (rest := rest) S0 (hC0 H.size) cw ⟨am_blind hok, fun U hU hW => ⟨rfl, by rw [hU], by rw [hU]; exact hPc, va_K.moved hW.alike hKc, hDc.weaken (fun _ _ _ _ => trivial), by rw [hU]; exact hok.1 _ _ _ _ hW.alike hXc⟩⟩ rfl hn hsz hst (lv_room hW8) hdg ⟨hroom.1, hroom.2⟩) hS (fun q _ h => hF q h) hF (fun r u t H1 locs1 ht hvm hw hB hz1 hk1 hS1 => ?_)
  obtain ⟨hP1, hK1, hD1⟩ := hB
  rw [ht] at hP1
  exact kk r u H1 locs1 hw hP1 (hD1.weaken (fun _ _ _ h => hF _ h)) hS1
theorem CTl_Sp (hok : am_ok X) {post : Int64 → S → Prop} {wv : S → va_W} (S0 : CallFix p m c cc nL s args Ts own) (hC0 : CTl l y ws rm D tys X As wc post wv) (cw : CallB R s args own index y bytes maxL ret ws rm 0 0 n ∧ (Cond.static y).before args s = true) (hKc : va_K D vwCl tys s) (hP : va_P D vwCl wsw H) (hD : va_D A wsw) (hS : va_S A s.heap H locs) (hA : ∀ q, s.heap.size ≤ q → A q) (hX : X A s s.heap) (isC isR : List Nat) (hC : isC.map (fun i => wsw[i]?) = wc.map some) (hR : isR.map (fun i => wsw[i]?) = (isR.filterMap (fun i => wsw[i]?)).map some) (hndC : va_nd isC = true) (hn9 : va_nd isR = true) (hdis : ∀ i ∈ isR, i ∉ isC) (hn : As.length = n) (hsz : ls.size = nL) (hst : st0 = As.reverse ++ rest) (hW8 : (rest.map fun v => v.category).sum ≤ 8) (hroom : cells ≤ R.cells ∧ slots ≤ R.slots) (hdg : decode cc pc = .ok (.invokestatic index, 3))
    (kk : ∀ (r : Int64) (u : S) (H1 : Heap) (locs1 : List Loc), post r u → va_P D vwCl ((isR.filterMap (fun i => wsw[i]?)) ++ wv u) H1 → va_D A ((isR.filterMap (fun i => wsw[i]?)) ++ wv u) → va_S A s.heap H1 locs1 → W p l e R s m args below meth c H1 locs1 cells slots Q (F0 m (pc + 3) ls (.long r :: rest))) : W p l e R s m args below meth c H locs cells slots Q (F0 m pc ls st0) := by
  have hPc := am_sub hP isC hC
  have hDc := hD.sub isC hndC hC
  have hF := va_free hD hS hA isC hC
  have hXc : X (va_A wc H.size) s H := hok.2.2 _ _ _ _ (hok.2.1 _ _ _ _ hX hS.2.1) hF
  refine va_calll (va_runS (As := As) (rest := rest) S0 (hC0 H.size) cw ⟨am_blind hok, fun U hU hW => ⟨rfl, by rw [hU], by rw [hU]; exact hPc, va_K.moved hW.alike hKc, hDc.weaken (fun _ _ _ _ => trivial), by rw [hU]; exact hok.1 _ _ _ _ hW.alike hXc⟩⟩ rfl hn hsz hst (lv_room hW8) hdg ⟨hroom.1, hroom.2⟩) hS (fun q _ h => hF q h) hF (fun r u t H1 locs1 ht hvm hw hB hz1 hk1 hS1 => ?_)
  obtain ⟨hP1, hK1, hD1⟩ := hB
  rw [ht] at hP1
  obtain ⟨hP2, hD2⟩ := va_join (wr := isR.filterMap (fun i => wsw[i]?)) (w1 := wv u) hP hD isC isR hC hR hn9 hdis hk1 hF hP1 hD1
  exact kk r u H1 locs1 hw hP2 hD2 hS1
theorem CTl_S0 (hok : am_ok X) {post : Int64 → S → Prop}  (S0 : CallFix p m c cc nL s args Ts own) (hC0 : CTl l y ws rm D tys X As [] post (fun _ => [])) (cw : CallB R s args own index y bytes maxL ret ws rm 0 0 n ∧ (Cond.static y).before args s = true) (hKc : va_K D vwCl tys s) (hP : va_P D vwCl wsw H) (hD : va_D A wsw) (hS : va_S A s.heap H locs) (hA : ∀ q, s.heap.size ≤ q → A q) (hX : X A s s.heap) (hn : As.length = n) (hsz : ls.size = nL) (hst : st0 = As.reverse ++ rest) (hW8 : (rest.map fun v => v.category).sum ≤ 8) (hroom : cells ≤ R.cells ∧ slots ≤ R.slots) (hdg : decode cc pc = .ok (.invokestatic index, 3))
    (kk : ∀ (r : Int64) (u : S) (H1 : Heap) (locs1 : List Loc), post r u → va_P D vwCl (wsw) H1 → va_D A (wsw) → va_S A s.heap H1 locs1 → W p l e R s m args below meth c H1 locs1 cells slots Q (F0 m (pc + 3) ls (.long r :: rest))) : W p l e R s m args below meth c H locs cells slots Q (F0 m pc ls st0) := by
  have hPc : va_P D vwCl [] H := fun k q h => by simp at h
  have hDc : va_D A [] := ⟨fun i j p q h => by simp at h, fun k q h => by simp at h⟩
  have hF : ∀ q, va_A [] H.size q → A q := fun q h => h.elim (fun ⟨k, e, hk⟩ => by simp at hk) (fun h => hA q (Nat.le_trans hS.1 h))
  have hXc : X (va_A [] H.size) s H := hok.2.2 _ _ _ _ (hok.2.1 _ _ _ _ hX hS.2.1) hF
  refine va_calll (va_runS (As := As) (rest := rest) S0 (hC0 H.size) cw ⟨am_blind hok, fun U hU hW => ⟨rfl, by rw [hU], by rw [hU]; exact hPc, va_K.moved hW.alike hKc, hDc.weaken (fun _ _ _ _ => trivial), by rw [hU]; exact hok.1 _ _ _ _ hW.alike hXc⟩⟩ rfl hn hsz hst (lv_room hW8) hdg ⟨hroom.1, hroom.2⟩) hS (fun q _ h => hF q h) hF (fun r u t H1 locs1 ht hvm hw hB hz1 hk1 hS1 => ?_)
  obtain ⟨hP1, hK1, hD1⟩ := hB
  rw [ht] at hP1
  exact kk r u H1 locs1 hw (hP.kept (fun k9 x h9 => hk1 _ (hP k9 x h9).lt (fun h => h.elim (fun ⟨k, e, hk⟩ => by simp at hk) (fun h => absurd ((hP k9 x h9).lt) (Nat.not_lt.mpr h))))) hD hS1
theorem CTv_Vw (hok : am_ok X) {post : S → Prop} {wv : S → va_W} (S0 : CallFix p m c cc nL s args Ts own) (hC0 : CTv l y ws rm D tys X (.ref b :: As) wsw post wv) (cw : CallW R s args own C index y bytes maxL ret ws rm 0 0 n) (hKc : va_K D vwCl tys s) (hP : va_P D vwCl wsw H) (hD : va_D A wsw) (hS : va_S A s.heap H locs) (hA : ∀ q, s.heap.size ≤ q → A q) (hX : X A s s.heap) (hK : va_K D vwCl tysW s) (q0 ci : Nat) {fs : List Value} {vc : vw_C} (hrc : vwCl[ci]? = some vc) (hre : wsw[q0]? = some (b, .inr (ci, fs))) (hvc : vc.1 = C) (hn : As.length = n) (hsz : ls.size = nL) (hst : st0 = As.reverse ++ .ref b :: rest) (hW8 : (rest.map fun v => v.category).sum ≤ 8) (hroom : cells ≤ R.cells ∧ slots ≤ R.slots) (hdg : decode cc pc = .ok (.invokevirtual index, 3))
    (kk : ∀ (u : S) (H1 : Heap) (locs1 : List Loc), post u → va_P D vwCl (wv u) H1 → va_D A (wv u) → va_S A s.heap H1 locs1 → W p l e R s m args below meth c H1 locs1 cells slots Q (F0 m (pc + 3) ls (rest))) : W p l e R s m args below meth c H locs cells slots Q (F0 m pc ls st0) := by
  have hPc := hP
  have hDc := hD
  have hF : ∀ q, va_A wsw H.size q → A q := fun q h => h.elim (fun ⟨k, e, hk⟩ => hD.2 k _ hk) (fun h => hA q (Nat.le_trans hS.1 h))
  have hXc : X (va_A wsw H.size) s H := hok.2.2 _ _ _ _ (hok.2.1 _ _ _ _ hX hS.2.1) hF
  have recv := va_recv hK hP hrc hre
  rw [hvc] at recv
  refine va_callv (va_runV (As := As) (rest := rest) S0 (hC0 H.size) cw ⟨am_blind hok, recv, fun U hU hW => ⟨rfl, by rw [hU], by rw [hU]; exact hPc, va_K.moved hW.alike hKc, hDc.weaken (fun _ _ _ _ => trivial), by rw [hU]; exact hok.1 _ _ _ _ hW.alike hXc⟩⟩ rfl hn hsz hst (lv_room hW8) hdg ⟨hroom.1, hroom.2⟩) hS (fun q _ h => hF q h) hF (fun u t H1 locs1 ht hvm hw hB hz1 hk1 hS1 => ?_)
  obtain ⟨hP1, hK1, hD1⟩ := hB
  rw [ht] at hP1
  exact kk u H1 locs1 hw hP1 (hD1.weaken (fun _ _ _ h => hF _ h)) hS1
theorem CTv_Vp (hok : am_ok X) {post : S → Prop} {wv : S → va_W} (S0 : CallFix p m c cc nL s args Ts own) (hC0 : CTv l y ws rm D tys X (.ref b :: As) wc post wv) (cw : CallW R s args own C index y bytes maxL ret ws rm 0 0 n) (hKc : va_K D vwCl tys s) (hP : va_P D vwCl wsw H) (hD : va_D A wsw) (hS : va_S A s.heap H locs) (hA : ∀ q, s.heap.size ≤ q → A q) (hX : X A s s.heap) (hK : va_K D vwCl tysW s) (q0 ci : Nat) {fs : List Value} {vc : vw_C} (hrc : vwCl[ci]? = some vc) (hre : wsw[q0]? = some (b, .inr (ci, fs))) (hvc : vc.1 = C) (isC isR : List Nat) (hC : isC.map (fun i => wsw[i]?) = wc.map some) (hR : isR.map (fun i => wsw[i]?) = (isR.filterMap (fun i => wsw[i]?)).map some) (hndC : va_nd isC = true) (hn9 : va_nd isR = true) (hdis : ∀ i ∈ isR, i ∉ isC) (hn : As.length = n) (hsz : ls.size = nL) (hst : st0 = As.reverse ++ .ref b :: rest) (hW8 : (rest.map fun v => v.category).sum ≤ 8) (hroom : cells ≤ R.cells ∧ slots ≤ R.slots) (hdg : decode cc pc = .ok (.invokevirtual index, 3))
    (kk : ∀ (u : S) (H1 : Heap) (locs1 : List Loc), post u → va_P D vwCl ((isR.filterMap (fun i => wsw[i]?)) ++ wv u) H1 → va_D A ((isR.filterMap (fun i => wsw[i]?)) ++ wv u) → va_S A s.heap H1 locs1 → W p l e R s m args below meth c H1 locs1 cells slots Q (F0 m (pc + 3) ls (rest))) : W p l e R s m args below meth c H locs cells slots Q (F0 m pc ls st0) := by
  have hPc := am_sub hP isC hC
  have hDc := hD.sub isC hndC hC
  have hF := va_free hD hS hA isC hC
  have hXc : X (va_A wc H.size) s H := hok.2.2 _ _ _ _ (hok.2.1 _ _ _ _ hX hS.2.1) hF
  have recv := va_recv hK hP hrc hre
  rw [hvc] at recv
  refine va_callv (va_runV (As := As) (rest := rest) S0 (hC0 H.size) cw ⟨am_blind hok, recv, fun U hU hW => ⟨rfl, by rw [hU], by rw [hU]; exact hPc, va_K.moved hW.alike hKc, hDc.weaken (fun _ _ _ _ => trivial), by rw [hU]; exact hok.1 _ _ _ _ hW.alike hXc⟩⟩ rfl hn hsz hst (lv_room hW8) hdg ⟨hroom.1, hroom.2⟩) hS (fun q _ h => hF q h) hF (fun u t H1 locs1 ht hvm hw hB hz1 hk1 hS1 => ?_)
  obtain ⟨hP1, hK1, hD1⟩ := hB
  rw [ht] at hP1
  obtain ⟨hP2, hD2⟩ := va_join (wr := isR.filterMap (fun i => wsw[i]?)) (w1 := wv u) hP hD isC isR hC hR hn9 hdis hk1 hF hP1 hD1
  exact kk u H1 locs1 hw hP2 hD2 hS1
theorem CTv_Sw (hok : am_ok X) {post : S → Prop} {wv : S → va_W} (S0 : CallFix p m c cc nL s args Ts own) (hC0 : CTv l y ws rm D tys X As wsw post wv) (cw : CallB R s args own index y bytes maxL ret ws rm 0 0 n ∧ (Cond.static y).before args s = true) (hKc : va_K D vwCl tys s) (hP : va_P D vwCl wsw H) (hD : va_D A wsw) (hS : va_S A s.heap H locs) (hA : ∀ q, s.heap.size ≤ q → A q) (hX : X A s s.heap) (hn : As.length = n) (hsz : ls.size = nL) (hst : st0 = As.reverse ++ rest) (hW8 : (rest.map fun v => v.category).sum ≤ 8) (hroom : cells ≤ R.cells ∧ slots ≤ R.slots) (hdg : decode cc pc = .ok (.invokestatic index, 3))
    (kk : ∀ (u : S) (H1 : Heap) (locs1 : List Loc), post u → va_P D vwCl (wv u) H1 → va_D A (wv u) → va_S A s.heap H1 locs1 → W p l e R s m args below meth c H1 locs1 cells slots Q (F0 m (pc + 3) ls (rest))) : W p l e R s m args below meth c H locs cells slots Q (F0 m pc ls st0) := by
  have hPc := hP
  have hDc := hD
  have hF : ∀ q, va_A wsw H.size q → A q := fun q h => h.elim (fun ⟨k, e, hk⟩ => hD.2 k _ hk) (fun h => hA q (Nat.le_trans hS.1 h))
  have hXc : X (va_A wsw H.size) s H := hok.2.2 _ _ _ _ (hok.2.1 _ _ _ _ hX hS.2.1) hF
  refine va_callv (va_runS (As := As) (rest := rest) S0 (hC0 H.size) cw ⟨am_blind hok, fun U hU hW => ⟨rfl, by rw [hU], by rw [hU]; exact hPc, va_K.moved hW.alike hKc, hDc.weaken (fun _ _ _ _ => trivial), by rw [hU]; exact hok.1 _ _ _ _ hW.alike hXc⟩⟩ rfl hn hsz hst (lv_room hW8) hdg ⟨hroom.1, hroom.2⟩) hS (fun q _ h => hF q h) hF (fun u t H1 locs1 ht hvm hw hB hz1 hk1 hS1 => ?_)
  obtain ⟨hP1, hK1, hD1⟩ := hB
  rw [ht] at hP1
  exact kk u H1 locs1 hw hP1 (hD1.weaken (fun _ _ _ h => hF _ h)) hS1
theorem CTv_Sp (hok : am_ok X) {post : S → Prop} {wv : S → va_W} (S0 : CallFix p m c cc nL s args Ts own) (hC0 : CTv l y ws rm D tys X As wc post wv) (cw : CallB R s args own index y bytes maxL ret ws rm 0 0 n ∧ (Cond.static y).before args s = true) (hKc : va_K D vwCl tys s) (hP : va_P D vwCl wsw H) (hD : va_D A wsw) (hS : va_S A s.heap H locs) (hA : ∀ q, s.heap.size ≤ q → A q) (hX : X A s s.heap) (isC isR : List Nat) (hC : isC.map (fun i => wsw[i]?) = wc.map some) (hR : isR.map (fun i => wsw[i]?) = (isR.filterMap (fun i => wsw[i]?)).map some) (hndC : va_nd isC = true) (hn9 : va_nd isR = true) (hdis : ∀ i ∈ isR, i ∉ isC) (hn : As.length = n) (hsz : ls.size = nL) (hst : st0 = As.reverse ++ rest) (hW8 : (rest.map fun v => v.category).sum ≤ 8) (hroom : cells ≤ R.cells ∧ slots ≤ R.slots) (hdg : decode cc pc = .ok (.invokestatic index, 3))
    (kk : ∀ (u : S) (H1 : Heap) (locs1 : List Loc), post u → va_P D vwCl ((isR.filterMap (fun i => wsw[i]?)) ++ wv u) H1 → va_D A ((isR.filterMap (fun i => wsw[i]?)) ++ wv u) → va_S A s.heap H1 locs1 → W p l e R s m args below meth c H1 locs1 cells slots Q (F0 m (pc + 3) ls (rest))) : W p l e R s m args below meth c H locs cells slots Q (F0 m pc ls st0) := by
  have hPc := am_sub hP isC hC
  have hDc := hD.sub isC hndC hC
  have hF := va_free hD hS hA isC hC
  have hXc : X (va_A wc H.size) s H := hok.2.2 _ _ _ _ (hok.2.1 _ _ _ _ hX hS.2.1) hF
  refine va_callv (va_runS (As := As) (rest := rest) S0 (hC0 H.size) cw ⟨am_blind hok, fun U hU hW => ⟨rfl, by rw [hU], by rw [hU]; exact hPc, va_K.moved hW.alike hKc, hDc.weaken (fun _ _ _ _ => trivial), by rw [hU]; exact hok.1 _ _ _ _ hW.alike hXc⟩⟩ rfl hn hsz hst (lv_room hW8) hdg ⟨hroom.1, hroom.2⟩) hS (fun q _ h => hF q h) hF (fun u t H1 locs1 ht hvm hw hB hz1 hk1 hS1 => ?_)
  obtain ⟨hP1, hK1, hD1⟩ := hB
  rw [ht] at hP1
  obtain ⟨hP2, hD2⟩ := va_join (wr := isR.filterMap (fun i => wsw[i]?)) (w1 := wv u) hP hD isC isR hC hR hn9 hdis hk1 hF hP1 hD1
  exact kk u H1 locs1 hw hP2 hD2 hS1
theorem CTv_S0 (hok : am_ok X) {post : S → Prop}  (S0 : CallFix p m c cc nL s args Ts own) (hC0 : CTv l y ws rm D tys X As [] post (fun _ => [])) (cw : CallB R s args own index y bytes maxL ret ws rm 0 0 n ∧ (Cond.static y).before args s = true) (hKc : va_K D vwCl tys s) (hP : va_P D vwCl wsw H) (hD : va_D A wsw) (hS : va_S A s.heap H locs) (hA : ∀ q, s.heap.size ≤ q → A q) (hX : X A s s.heap) (hn : As.length = n) (hsz : ls.size = nL) (hst : st0 = As.reverse ++ rest) (hW8 : (rest.map fun v => v.category).sum ≤ 8) (hroom : cells ≤ R.cells ∧ slots ≤ R.slots) (hdg : decode cc pc = .ok (.invokestatic index, 3))
    (kk : ∀ (u : S) (H1 : Heap) (locs1 : List Loc), post u → va_P D vwCl (wsw) H1 → va_D A (wsw) → va_S A s.heap H1 locs1 → W p l e R s m args below meth c H1 locs1 cells slots Q (F0 m (pc + 3) ls (rest))) : W p l e R s m args below meth c H locs cells slots Q (F0 m pc ls st0) := by
  have hPc : va_P D vwCl [] H := fun k q h => by simp at h
  have hDc : va_D A [] := ⟨fun i j p q h => by simp at h, fun k q h => by simp at h⟩
  have hF : ∀ q, va_A [] H.size q → A q := fun q h => h.elim (fun ⟨k, e, hk⟩ => by simp at hk) (fun h => hA q (Nat.le_trans hS.1 h))
  have hXc : X (va_A [] H.size) s H := hok.2.2 _ _ _ _ (hok.2.1 _ _ _ _ hX hS.2.1) hF
  refine va_callv (va_runS (As := As) (rest := rest) S0 (hC0 H.size) cw ⟨am_blind hok, fun U hU hW => ⟨rfl, by rw [hU], by rw [hU]; exact hPc, va_K.moved hW.alike hKc, hDc.weaken (fun _ _ _ _ => trivial), by rw [hU]; exact hok.1 _ _ _ _ hW.alike hXc⟩⟩ rfl hn hsz hst (lv_room hW8) hdg ⟨hroom.1, hroom.2⟩) hS (fun q _ h => hF q h) hF (fun u t H1 locs1 ht hvm hw hB hz1 hk1 hS1 => ?_)
  obtain ⟨hP1, hK1, hD1⟩ := hB
  rw [ht] at hP1
  exact kk u H1 locs1 hw (hP.kept (fun k9 x h9 => hk1 _ (hP k9 x h9).lt (fun h => h.elim (fun ⟨k, e, hk⟩ => by simp at hk) (fun h => absurd ((hP k9 x h9).lt) (Nat.not_lt.mpr h))))) hD hS1
end CALLS
end
section
/-! THE TWO OBJECTS' CELLS -/
theorem nI_decp {a : Nat} (h : 1 ≤ a) : nI a + Int32.ofInt (-1) = nI (a - 1) := by
  obtain ⟨k, rfl⟩ : ∃ k, a = k + 1 := ⟨a - 1, by omega⟩
  exact nI_dec k

def tysA (cI cL cQ : ClassId) : List (ClassId × FieldType) := [(cI, .int), (cL, .long), (cQ, .array .int)]
/-- the cells of the one object: itself, its rows -/
abbrev wC (ad : Nat → Nat) (cI cL cQ : ClassId) (ix pw sg tm : Nat → Int32) (hd : Nat → Nat → Int32) (wk rc lc : Nat → Int64) (P G D F : Nat) : va_W :=
  [(ad 0, .inr (0, [.ref (ad 1), .ref (ad 2), .ref (ad 3), .ref (ad 4), .ref (ad 5), .ref (ad 6), .ref (ad 7), .ref (ad 8), .int (nI P), .int (nI G), .int (nI D), .int (nI F)])),
   (ad 1, .inl (cI, 199, .inl ix)), (ad 2, .inl (cI, 199, .inl pw)), (ad 3, .inl (cI, 199, .inl sg)), (ad 4, .inl (cI, 199, .inl tm)),
   (ad 5, .inl (cQ, 6, .inr (.inr (.inr (.inr (fun i => if i < 6 then some (ad (9 + i)) else none)))))),
   (ad 6, .inl (cL, 12, .inr (.inl wk))), (ad 7, .inl (cL, 12, .inr (.inl rc))), (ad 8, .inl (cL, 12, .inr (.inl lc))),
   (ad 9, .inl (cI, 10, .inl (hd 0))), (ad 10, .inl (cI, 10, .inl (hd 1))), (ad 11, .inl (cI, 10, .inl (hd 2))), (ad 12, .inl (cI, 10, .inl (hd 3))), (ad 13, .inl (cI, 10, .inl (hd 4))), (ad 14, .inl (cI, 10, .inl (hd 5)))]
/-- the cells of the other one -/
abbrev wM (ad : Nat → Nat) (cI cL : ClassId) (P G D F : Nat) (ix : Nat → Int32) (ho : Nat → Int64) (re : Nat → Int32) (wk tu wa nx : Nat → Int64) : va_W :=
  [(ad 0, .inr (1, [.int (nI P), .int (nI G), .int (nI D), .int (nI F), .ref (ad 1), .ref (ad 2), .ref (ad 3), .ref (ad 4), .ref (ad 5), .ref (ad 6), .ref (ad 7)])),
   (ad 1, .inl (cI, 200, .inl ix)), (ad 2, .inl (cL, 72, .inr (.inl ho))), (ad 3, .inl (cI, 13, .inl re)), (ad 4, .inl (cL, 24, .inr (.inl wk))), (ad 5, .inl (cL, 24, .inr (.inl tu))), (ad 6, .inl (cL, 200, .inr (.inl wa))), (ad 7, .inl (cL, 200, .inr (.inl nx)))]
section HD
variable {ad : Nat → Nat} {cI cL cQ : ClassId} {ix pw sg tm : Nat → Int32} {hd : Nat → Nat → Int32} {wk rc lc : Nat → Int64} {P G D F : Nat}
theorem hd_get {i : Nat} (hi : i < 6) : (wC ad cI cL cQ ix pw sg tm hd wk rc lc P G D F)[9 + i]? = some (ad (9 + i), .inl (cI, 10, .inl (hd i))) := by
  match i, hi with
  | 0, _ => rfl
  | 1, _ => rfl
  | 2, _ => rfl
  | 3, _ => rfl
  | 4, _ => rfl
  | 5, _ => rfl
theorem hd_set {i : Nat} (hi : i < 6) {g : Nat → Int32} : (wC ad cI cL cQ ix pw sg tm hd wk rc lc P G D F).set (9 + i) (ad (9 + i), .inl (cI, 10, .inl g)) = wC ad cI cL cQ ix pw sg tm (va_up hd i g) wk rc lc P G D F := by
  match i, hi with
  | 0, _ => rfl
  | 1, _ => rfl
  | 2, _ => rfl
  | 3, _ => rfl
  | 4, _ => rfl
  | 5, _ => rfl
end HD

def relT : List Int := [(-1), 0, 0, 0, 0, 0, 0, 0, 0, 0, 1, 0, 0, 0, 0, 0, 0, 0, 0, 0, 1, 1, 0, 0, 0, 0, 0, 0, 0, 0, 1, 0, 0, 0, 0, 0, 0, 0, 0, 0, 1, 1, 1, 1, 0, 0, 0, 0, 0, 0, 1, (-1), 0, 0, 0, 0, 0, 0, 0, 0, 1, 1, 1, 1, 1, 1, 0, 0, 0, 0, 1, 0, 0, 0, 0, 0, 0, 0, 0, 0, 1, 0, 0, 1, 0, 0, 0, 0, 0, 0, 1, (-1), 1, (-1), 0, 0, 0, 0, 0, 0, 1, 1, 1, 1, 1, 1, 1, 1, 1, 1, 1, 0, (-1), 0, 0, 0, 0, 0, 0, 0]
def relC (j : Nat) : Int := relT.getD j 0
def rX (tR : Nat) : (Nat → Prop) → State → Heap → Prop := fun A U H => va_Z "TurningSums" "RELATIONS" "[I" (.ref tR) A U H ∧ va_T .int tR 120 (fun j => .int (zI (relC j))) A U H
theorem rX_ok (tR : Nat) : am_ok (rX tR) :=
  ⟨fun _ _ _ _ h q => ⟨q.1.moved h, q.2.moved h⟩, fun _ _ _ _ q h => ⟨q.1.kept h, q.2.kept h⟩, fun _ _ _ _ q h => ⟨q.1.narrow h, q.2.narrow h⟩⟩
theorem zI_toNat {z : Int} (h : 0 ≤ z) : zI z = nI z.toNat := by rw [nI_zI, Int.toNat_of_nonneg h]
section WORLD
variable {p : Program} {l : Launch} {e : Env} {R : Room} {s : State} {m : MethodId} {args : Array Value} {below : List Frame} {meth : Method} {c : Code} {H : Heap} {locs : List Loc} {cells slots : Nat} {Q : State → Prop}
variable {cc : ByteArray} {pc : Nat} {ls : Array Slot} {rest : List Value} {D : va_G} {cl : List vw_C} {A : Nat → Prop} {a : Nat} {tys : List (ClassId × FieldType)} {ws : va_W} {H0 : Heap}
theorem tq_ldc (hx : p.tables.exec = Jvm.exec) (hb : c.code = cc) {own : String} {index : Nat} {k : Int} (hown : s.vm.findClass own = some m.cls) (hconst : (Jvm.Cond.constant own index (zI k)).before args s = true) (hdg : decode cc pc = .ok (.ldc index, 2)) (kk : W p l e R s m args below meth c H locs cells slots Q (F0 m (pc + 2) ls (.int (zI k) :: rest))) : W p l e R s m args below meth c H locs cells slots Q (F0 m pc ls (rest)) := lv_ldc hx hb hown hconst hdg kk
theorem tq_ldc2 (hx : p.tables.exec = Jvm.exec) (hb : c.code = cc) {own : String} {index : Nat} {k : Int} (hown : s.vm.findClass own = some m.cls) (hconst : (Jvm.Cond.constantLong own index (zL k)).before args s = true) (hdg : decode cc pc = .ok (.ldc2_w index, 3)) (kk : W p l e R s m args below meth c H locs cells slots Q (F0 m (pc + 3) ls (.long (zL k) :: rest))) : W p l e R s m args below meth c H locs cells slots Q (F0 m pc ls (rest)) := lv_ldc2 hx hb hown hconst hdg kk
theorem nv_rel (hx : p.tables.exec = Jvm.exec) (hb : c.code = cc) {t : Nat} (hT : va_T .int t 120 (fun j => .int (zI (relC j))) A s s.heap) (hS : va_S A s.heap H locs) {i : Nat} (hi : i < 120) (hdg : decode cc pc = .ok (.iaload, 1)) (kk : W p l e R s m args below meth c H locs cells slots Q (F0 m (pc + 1) ls (.int (zI (relC i)) :: rest))) : W p l e R s m args below meth c H locs cells slots Q (F0 m pc ls (.int (nI i) :: .ref t :: rest)) :=
  va_ti hx hb hT hS (vp_in_nI hi (by decide)) (by rw [nI_clamp (by omega)]) hdg kk
theorem tq_i3 {v0 v1 : Value} {x y : Int32} (h : x = y) (k : W p l e R s m args below meth c H locs cells slots Q (F0 m pc ls (v0 :: v1 :: .int y :: rest))) : W p l e R s m args below meth c H locs cells slots Q (F0 m pc ls (v0 :: v1 :: .int x :: rest)) := by
  rw [h]; exact k
theorem tq_i4 {v0 v1 v2 : Value} {x y : Int32} (h : x = y) (k : W p l e R s m args below meth c H locs cells slots Q (F0 m pc ls (v0 :: v1 :: v2 :: .int y :: rest))) : W p l e R s m args below meth c H locs cells slots Q (F0 m pc ls (v0 :: v1 :: v2 :: .int x :: rest)) := by
  rw [h]; exact k
theorem cv_if_lt (hx : p.tables.exec = Jvm.exec) (hb : c.code = cc) {x y : Int64} {off : Int} {tgt : Nat} (hdg : decode cc pc = .ok (.ifCond .lt off, 3)) (ht : (pc : Int) + off = (tgt : Int)) (kt : x < y → W p l e R s m args below meth c H locs cells slots Q (F0 m tgt ls rest)) (kf : ¬ x < y → W p l e R s m args below meth c H locs cells slots Q (F0 m (pc + 3) ls rest)) : W p l e R s m args below meth c H locs cells slots Q (F0 m pc ls (.int (lg_cmp x y) :: rest)) :=
  lv_if_lt hx hb hdg ht (fun h => kt ((lg_cmp_lt x y).mp h)) (fun h => kf (fun q => h ((lg_cmp_lt x y).mpr q)))
theorem cv_if_le (hx : p.tables.exec = Jvm.exec) (hb : c.code = cc) {x y : Int64} {off : Int} {tgt : Nat} (hdg : decode cc pc = .ok (.ifCond .le off, 3)) (ht : (pc : Int) + off = (tgt : Int)) (kt : x ≤ y → W p l e R s m args below meth c H locs cells slots Q (F0 m tgt ls rest)) (kf : ¬ x ≤ y → W p l e R s m args below meth c H locs cells slots Q (F0 m (pc + 3) ls rest)) : W p l e R s m args below meth c H locs cells slots Q (F0 m pc ls (.int (lg_cmp x y) :: rest)) :=
  lv_if_le hx hb hdg ht (fun h => kt ((lg_cmp_le x y).mp h)) (fun h => kf (fun q => h ((lg_cmp_le x y).mpr q)))
theorem cv_if_gt (hx : p.tables.exec = Jvm.exec) (hb : c.code = cc) {x y : Int64} {off : Int} {tgt : Nat} (hdg : decode cc pc = .ok (.ifCond .gt off, 3)) (ht : (pc : Int) + off = (tgt : Int)) (kt : y < x → W p l e R s m args below meth c H locs cells slots Q (F0 m tgt ls rest)) (kf : ¬ y < x → W p l e R s m args below meth c H locs cells slots Q (F0 m (pc + 3) ls rest)) : W p l e R s m args below meth c H locs cells slots Q (F0 m pc ls (.int (lg_cmp x y) :: rest)) :=
  lv_if_gt hx hb hdg ht (fun h => kt ((lg_cmp_gt x y).mp h)) (fun h => kf (fun q => h ((lg_cmp_gt x y).mpr q)))
theorem cv_if_ge (hx : p.tables.exec = Jvm.exec) (hb : c.code = cc) {x y : Int64} {off : Int} {tgt : Nat} (hdg : decode cc pc = .ok (.ifCond .ge off, 3)) (ht : (pc : Int) + off = (tgt : Int)) (kt : y ≤ x → W p l e R s m args below meth c H locs cells slots Q (F0 m tgt ls rest)) (kf : ¬ y ≤ x → W p l e R s m args below meth c H locs cells slots Q (F0 m (pc + 3) ls rest)) : W p l e R s m args below meth c H locs cells slots Q (F0 m pc ls (.int (lg_cmp x y) :: rest)) :=
  lv_if_ge hx hb hdg ht (fun h => kt ((lg_cmp_ge x y).mp h)) (fun h => kf (fun q => h ((lg_cmp_ge x y).mpr q)))
theorem cv_if_eq (hx : p.tables.exec = Jvm.exec) (hb : c.code = cc) {x y : Int64} {off : Int} {tgt : Nat} (hdg : decode cc pc = .ok (.ifCond .eq off, 3)) (ht : (pc : Int) + off = (tgt : Int)) (kt : x = y → W p l e R s m args below meth c H locs cells slots Q (F0 m tgt ls rest)) (kf : ¬ x = y → W p l e R s m args below meth c H locs cells slots Q (F0 m (pc + 3) ls rest)) : W p l e R s m args below meth c H locs cells slots Q (F0 m pc ls (.int (lg_cmp x y) :: rest)) :=
  lv_if_eq hx hb hdg ht (fun h => kt ((lg_cmp_eq x y).mp h)) (fun h => kf (fun q => h ((lg_cmp_eq x y).mpr q)))
theorem cv_if_ne (hx : p.tables.exec = Jvm.exec) (hb : c.code = cc) {x y : Int64} {off : Int} {tgt : Nat} (hdg : decode cc pc = .ok (.ifCond .ne off, 3)) (ht : (pc : Int) + off = (tgt : Int)) (kt : ¬ x = y → W p l e R s m args below meth c H locs cells slots Q (F0 m tgt ls rest)) (kf : x = y → W p l e R s m args below meth c H locs cells slots Q (F0 m (pc + 3) ls rest)) : W p l e R s m args below meth c H locs cells slots Q (F0 m pc ls (.int (lg_cmp x y) :: rest)) :=
  lv_if_ne hx hb hdg ht (fun h => kt (fun q => h ((lg_cmp_eq x y).mpr q))) (fun h => kf ((lg_cmp_eq x y).mp h))
theorem bo_0 {b : Prop} [Decidable b] (h : (if b then (1 : Int32) else 0) = 0) : ¬ b := fun q => by rw [if_pos q] at h; exact absurd h (by decide)
theorem bo_1 {b : Prop} [Decidable b] (h : ¬ (if b then (1 : Int32) else 0) = 0) : b := by
  by_cases q : b
  · exact q
  · rw [if_neg q] at h; exact absurd rfl h
theorem bo_c {b d : Prop} [Decidable b] [Decidable d] (h : b ↔ d) : (if b then (1 : Int32) else 0) = if d then 1 else 0 := by
  by_cases q : b
  · rw [if_pos q, if_pos (h.mp q)]
  · rw [if_neg q, if_neg (fun z => q (h.mpr z))]
theorem bv_if_eq (hx : p.tables.exec = Jvm.exec) (hb : c.code = cc) {b : Prop} [Decidable b] {off : Int} {tgt : Nat} (hdg : decode cc pc = .ok (.ifCond .eq off, 3)) (ht : (pc : Int) + off = (tgt : Int)) (kt : ¬ b → W p l e R s m args below meth c H locs cells slots Q (F0 m tgt ls rest)) (kf : b → W p l e R s m args below meth c H locs cells slots Q (F0 m (pc + 3) ls rest)) : W p l e R s m args below meth c H locs cells slots Q (F0 m pc ls (.int (if b then 1 else 0) :: rest)) :=
  lv_if_eq hx hb hdg ht (fun h => kt (bo_0 h)) (fun h => kf (bo_1 h))
theorem bv_if_ne (hx : p.tables.exec = Jvm.exec) (hb : c.code = cc) {b : Prop} [Decidable b] {off : Int} {tgt : Nat} (hdg : decode cc pc = .ok (.ifCond .ne off, 3)) (ht : (pc : Int) + off = (tgt : Int)) (kt : b → W p l e R s m args below meth c H locs cells slots Q (F0 m tgt ls rest)) (kf : ¬ b → W p l e R s m args below meth c H locs cells slots Q (F0 m (pc + 3) ls rest)) : W p l e R s m args below meth c H locs cells slots Q (F0 m pc ls (.int (if b then 1 else 0) :: rest)) :=
  lv_if_ne hx hb hdg ht (fun h => kt (bo_1 h)) (fun h => kf (bo_0 h))
end WORLD
end
section
/-! PURE 1: what the small methods answer -/
theorem zI_rem {x : Int} {n : Nat} (hx : -2147483648 ≤ x ∧ x < 2147483648) (h0 : 0 < n) (hn : n < 2147483648) : zI x - zI x / nI n * nI n = zI (x.tmod (n : Int)) := by
  have hq : zI x / nI n = zI (x.tdiv (n : Int)) := by
    rw [← zI_of (zI x / nI n)]
    rw [Int32.toInt_div_of_ne_right _ _ (by intro h; have := congrArg Int32.toInt h; rw [nI_toInt hn] at this; have h2 : (-1 : Int32).toInt = -1 := by decide
                                            omega)]
    rw [zI_toInt hx.1 hx.2, nI_toInt hn]
  rw [hq, nI_zI, zI_mul, zI_sub, Int.tmod_def, Int.mul_comm]
theorem zL_rem {x : Int} {n : Nat} (hx : -9223372036854775808 ≤ x ∧ x < 9223372036854775808) (h0 : 0 < n) (hn : n < 2147483648) : zL x - zL x / zL (n : Int) * zL (n : Int) = zL (x.tmod (n : Int)) := by
  have hq : zL x / zL (n : Int) = zL (x.tdiv (n : Int)) := by
    rw [← zL_of (zL x / zL (n : Int))]
    rw [Int64.toInt_div_of_ne_right _ _ (by intro h; have := congrArg Int64.toInt h; rw [zL_toInt (by omega) (by omega)] at this; have h2 : (-1 : Int64).toInt = -1 := by decide
                                            omega)]
    rw [zL_toInt hx.1 hx.2, zL_toInt (by omega) (by omega)]
  rw [hq, zL_mul, zL_sub, Int.tmod_def, Int.mul_comm]
theorem zL_ne0 {n : Nat} (h0 : 0 < n) (hn : n < 2147483648) : ¬ zL (n : Int) = 0 := by
  intro h
  have := congrArg Int64.toInt h
  rw [zL_toInt (by omega) (by omega)] at this
  have h2 : (0 : Int64).toInt = 0 := by decide
  omega
theorem fm_pos {x : Int} {n : Nat} (hx : 0 ≤ x) (h0 : 0 < n) : x.tmod (n : Int) = ((fmN x n : Nat) : Int) := by
  rw [fmN_cast x h0, Int.tmod_eq_emod_of_nonneg hx]
theorem fm_zero {x : Int} {n : Nat} (h0 : 0 < n) (h : x.tmod (n : Int) = 0) : fmN x n = 0 := by
  have h1 : (n : Int) ∣ x := Int.dvd_of_tmod_eq_zero h
  have := fmN_cast x h0
  rw [Int.emod_eq_zero_of_dvd h1] at this
  omega
theorem fm_neg {x : Int} {n : Nat} (hx : x < 0) (h0 : 0 < n) (h : x.tmod (n : Int) ≠ 0) : x.tmod (n : Int) + (n : Int) = ((fmN x n : Nat) : Int) := by
  have h1 : ¬ (n : Int) ∣ x := fun q => h (Int.tmod_eq_zero_of_dvd q)
  rw [fmN_cast x h0, Int.tmod_eq_emod, if_neg (by intro q; rcases q with q | q; exact absurd q (by omega); exact h1 q)]
  omega
theorem fm_neg_rng {x : Int} {n : Nat} (hx : x < 0) (h0 : 0 < n) : x.tmod (n : Int) ≤ 0 ∧ -(n : Int) < x.tmod (n : Int) := by
  by_cases h1 : (n : Int) ∣ x
  · rw [Int.tmod_eq_zero_of_dvd h1]; omega
  · have h2 := fm_neg hx h0 (fun q => h1 (Int.dvd_of_tmod_eq_zero q))
    have h3 := fmN_lt x h0
    have h4 : fmN x n ≠ 0 := fun q => h1 (Int.dvd_of_emod_eq_zero (by rw [← fmN_cast x h0, q]; rfl))
    omega
theorem fm_rng {x : Int} {n : Nat} (h0 : 0 < n) : -(n : Int) < x.tmod (n : Int) ∧ x.tmod (n : Int) < (n : Int) := by
  by_cases hx : 0 ≤ x
  · have h3 := fmN_lt x h0
    rw [fm_pos hx h0]; omega
  · have := fm_neg_rng (by omega : x < 0) h0
    omega
theorem xor_sign {x : Int} {n : Nat} (hx : -2147483648 ≤ x ∧ x < 2147483648) (hn : n < 2147483648) : (0 ≤ zI x ^^^ nI n) ↔ 0 ≤ x := by
  have h1 : (zI x).toBitVec.msb = decide (x < 0) := by
    rw [BitVec.msb_eq_toInt, Int32.toInt_toBitVec, zI_toInt hx.1 hx.2]
  have h2 : (nI n).toBitVec.msb = false := by
    rw [BitVec.msb_eq_toInt, Int32.toInt_toBitVec, nI_toInt hn]
    simp
  have h3 : (zI x ^^^ nI n).toBitVec.msb = decide (x < 0) := by
    rw [Int32.toBitVec_xor, BitVec.msb_xor, h1, h2]; simp
  rw [Int32.le_iff_toInt_le]
  rw [BitVec.msb_eq_toInt, Int32.toInt_toBitVec] at h3
  have h4 : (0 : Int32).toInt = 0 := by decide
  have h5 := decide_eq_decide.mp h3
  omega
theorem fl_upd (f : Nat → Int32) (v : Int32) (i : Nat) : upd (fun k => if k < i then v else f k) i v = fun k => if k < i + 1 then v else f k := by
  funext k
  unfold upd
  by_cases h : k = i
  · rw [if_pos h, if_pos (by omega)]
  · rw [if_neg h]
    show (if k < i then v else f k) = if k < i + 1 then v else f k
    by_cases h2 : k < i
    · rw [if_pos h2, if_pos (by omega)]
    · rw [if_neg h2, if_neg (by omega)]
theorem fl_updL (f : Nat → Int64) (v : Int64) (i : Nat) : vp_updL (fun k => if k < i then v else f k) i v = fun k => if k < i + 1 then v else f k := by
  funext k
  unfold vp_updL
  by_cases h : k = i
  · rw [if_pos h, if_pos (by omega)]
  · rw [if_neg h]
    show (if k < i then v else f k) = if k < i + 1 then v else f k
    by_cases h2 : k < i
    · rw [if_pos h2, if_pos (by omega)]
    · rw [if_neg h2, if_neg (by omega)]
theorem fl_0 {α : Type} (f : Nat → α) (v : α) : f = fun k => if k < 0 then v else f k := by
  funext k
  rw [if_neg (by omega)]
/-- the first i from a start on, within n steps, that q takes -/
def fndN (q : Nat → Bool) : Nat → Nat → Nat
  | 0, i => i
  | n + 1, i => if q i then i else fndN q n (i + 1)
def ordB (P g : Nat) : Bool := (List.range (P - 2)).all (fun k => g ^ (k + 1) % P != 1)
def rootN (P : Nat) : Nat := fndN (ordB P) (P - 2) 2
def ixN (P x : Nat) : Nat := fndN (fun k => rootN P ^ k % P == x) (P - 1) 0
theorem fndN_ge (q : Nat → Bool) : ∀ n i, i ≤ fndN q n i
  | 0, i => Nat.le_refl _
  | n + 1, i => by
    unfold fndN
    split
    · exact Nat.le_refl _
    · exact Nat.le_trans (Nat.le_succ i) (fndN_ge q n (i + 1))
theorem fndN_le (q : Nat → Bool) : ∀ n i, fndN q n i ≤ i + n
  | 0, i => Nat.le_refl _
  | n + 1, i => by
    unfold fndN
    split
    · omega
    · have := fndN_le q n (i + 1)
      omega
theorem fndN_yes (q : Nat → Bool) : ∀ n i, fndN q n i < i + n → q (fndN q n i) = true
  | 0, i, h => absurd h (Nat.lt_irrefl i)
  | n + 1, i, h => by
    unfold fndN at h ⊢
    split
    · assumption
    · rename_i h1
      rw [if_neg h1] at h
      exact fndN_yes q n (i + 1) (by omega)
theorem fndN_no (q : Nat → Bool) : ∀ n i k, i ≤ k → k < fndN q n i → q k = false
  | 0, i, k, h1, h2 => absurd h1 (Nat.not_le.mpr h2)
  | n + 1, i, k, h1, h2 => by
    unfold fndN at h2
    split at h2
    · omega
    · rename_i h3
      rcases Nat.lt_or_ge i k with h4 | h4
      · exact fndN_no q n (i + 1) k h4 h2
      · have e : k = i := by omega
        rw [e]
        exact Bool.eq_false_iff.mpr h3
theorem ixN_le (P x : Nat) : ixN P x ≤ P - 1 := by
  have := fndN_le (fun k => rootN P ^ k % P == x) (P - 1) 0
  unfold ixN
  omega
/-- the part of the state that the small methods look at -/
def okT (P D : Nat) (ix : Nat → Int32) : Prop := 3 ≤ P ∧ P ≤ 199 ∧ 1 ≤ D ∧ D ≤ 12 ∧ ∀ y, 1 ≤ y → y < P → ix y = nI (ixN P y)
def clsN (P D x : Nat) : Nat := ixN P (x % P) % D
def coN (D : Nat) (t : Int) : Bool := Nat.gcd (fmN t D) D == 1
theorem fm_dvd {t : Int} {D q : Nat} (hD : 0 < D) (hq : q ∣ D) : (q : Int) ∣ t ↔ q ∣ fmN t D := by
  have h1 := fmN_cast t hD
  have h2 : (q : Int) ∣ (D : Int) := Int.natCast_dvd_natCast.mpr hq
  rw [← Int.natCast_dvd_natCast, h1, Int.dvd_iff_emod_eq_zero, Int.dvd_iff_emod_eq_zero, Int.emod_emod_of_dvd t h2]
theorem co_no {D q : Nat} {t : Int} (hD : 0 < D) (h2 : 2 ≤ q) (h1 : D % q = 0) (h3 : t.tmod (q : Int) = 0) : coN D t = false := by
  have a1 : q ∣ D := Nat.dvd_of_mod_eq_zero h1
  have a2 : (q : Int) ∣ t := Int.dvd_of_tmod_eq_zero h3
  have a3 := (fm_dvd hD a1).mp a2
  have a4 := Nat.dvd_gcd a3 a1
  unfold coN
  apply Bool.eq_false_iff.mpr
  intro h
  have h5 : Nat.gcd (fmN t D) D = 1 := by simpa using h
  rw [h5] at a4
  have := Nat.le_of_dvd (by decide) a4
  omega
theorem co_yes {D : Nat} {t : Int} (hD : 0 < D) (h : ∀ q, 2 ≤ q → q ≤ D → ¬ (D % q = 0 ∧ t.tmod (q : Int) = 0)) : coN D t = true := by
  unfold coN
  have a1 := Nat.gcd_dvd_left (fmN t D) D
  have a2 := Nat.gcd_dvd_right (fmN t D) D
  have a3 : 0 < Nat.gcd (fmN t D) D := Nat.gcd_pos_of_pos_right _ hD
  by_cases h1 : Nat.gcd (fmN t D) D = 1
  · rw [h1]; rfl
  · exact absurd ⟨Nat.mod_eq_zero_of_dvd a2, Int.tmod_eq_zero_of_dvd ((fm_dvd hD a2).mpr a1)⟩ (h _ (by omega) (Nat.le_of_dvd hD a2))
theorem set_iff {x : Int} {D : Nat} (hx : -2147483648 ≤ x ∧ x < 2147483648) (h1 : 1 ≤ D) (h2 : D ≤ 12) : (((zI x).toUInt32 >>> ((nI D).toUInt32 &&& Int32.toUInt32 31)).toInt32 = 0) ↔ (0 ≤ x ∧ x < ((2 ^ D : Nat) : Int)) := by
  have hk : ∀ d, d < 13 → (((nI d).toUInt32 &&& Int32.toUInt32 31).toBitVec % 32).toNat = d := by decide +kernel
  have hs := pk_ushr (zI x) (nI D) D (hk D (by omega))
  have hz : ∀ w : Int32, w = 0 ↔ w.toBitVec.toNat = 0 := fun w => by
    constructor
    · intro h; rw [h]; rfl
    · intro h
      apply Int32.toBitVec.inj
      apply BitVec.eq_of_toNat_eq
      rw [h]; rfl
  rw [hz, hs, Nat.div_eq_zero_iff]
  have hn : ((zI x).toBitVec.toNat : Int) = x % 4294967296 := by
    have e : (zI x).toBitVec.toInt = x := by rw [Int32.toInt_toBitVec, zI_toInt hx.1 hx.2]
    have e2 := BitVec.toInt_eq_toNat_bmod (zI x).toBitVec
    have e3 := (zI x).toBitVec.isLt
    rw [e] at e2
    rw [Int.bmod_def] at e2
    simp only [Nat.reducePow] at e2 e3
    omega
  have hp : 2 ^ D ≤ 4096 := Nat.le_trans (Nat.pow_le_pow_right (by decide) h2) (by decide)
  have hp0 : 0 < 2 ^ D := Nat.pow_pos (by decide)
  omega
theorem shl_1 {D : Nat} (h2 : D ≤ 12) : nI 1 <<< (nI D &&& 31) = nI (2 ^ D) := by
  have hk : ∀ d, d < 13 → nI 1 <<< (nI d &&& 31) = nI (2 ^ d) := by decide +kernel
  exact hk D (by omega)
theorem zL_le {a b : Int} (ha : -9223372036854775808 ≤ a ∧ a < 9223372036854775808) (hb : -9223372036854775808 ≤ b ∧ b < 9223372036854775808) : zL a ≤ zL b ↔ a ≤ b := by
  rw [Int64.le_iff_toInt_le, zL_toInt ha.1 ha.2, zL_toInt hb.1 hb.2]
end
section
set_option maxHeartbeats 4000000 in
set_option maxRecDepth 100000 in
theorem c_J9_floorMod_7cf53 (l : Launch) (dd : va_G) {cI cL cQ : ClassId}   {x : Int} {n : Nat} (hxr : -2147483648 ≤ x ∧ x < 2147483648) (h0 : 0 < n) (hn : n < 2147483648) : CTi l yJ9_floorMod_7cf53 wsJ9_floorMod_7cf53 ({ frames := 0, cells := 0, slots := 0, locals := 0 } : Room) dd (tysA cI cL cQ) (am_no) [.int (zI (x)), .int (nI (n))] [] (fun (r : Int32) (u : Unit) => r = nI (fmN x n)) (fun (_ : Unit) => []) := by
  refine CTi_of (cc := cJ9_floorMod_7cf53) (maxL := 3) (by decide +kernel) rfl (Nat.le_of_ble_eq_true rfl) ?_
  intro p e s m args below meth c A Q ls H locs hx hb hts hown hml hP hK hD hS hA hX hl hret
  have hl : lv_has ls 3 [(0, .int (zI (x))), (1, .int (nI (n)))] := hl
  refine lv_iload_n (pc := 0) hx hb dJ9_floorMod_7cf53_0 rfl (lv_at hl 0 rfl) ?_
  refine lv_iload_n (pc := 1) hx hb dJ9_floorMod_7cf53_1 rfl (lv_at hl 1 rfl) ?_
  refine lv_irem (pc := 2) hx hb dJ9_floorMod_7cf53_2 (nI_ne0 h0 hn) ?_
  refine tq_i (y := zI ((x.tmod (n : Int)))) (zI_rem hxr h0 hn) ?_
  refine lv_istore_n (pc := 3) (lv' := [(2, .int (zI ((x.tmod (n : Int))))), (0, .int (zI (x))), (1, .int (nI (n)))]) hx hb dJ9_floorMod_7cf53_3 rfl hl (by decide) rfl (fun ls hl => ?_)
  refine lv_iload_n (pc := 4) hx hb dJ9_floorMod_7cf53_4 rfl (lv_at hl 1 rfl) ?_
  refine lv_iload_n (pc := 5) hx hb dJ9_floorMod_7cf53_5 rfl (lv_at hl 2 rfl) ?_
  refine lv_ixor (pc := 6) hx hb dJ9_floorMod_7cf53_6 ?_
  refine lv_if_ge (pc := 7) (tgt := 18) hx hb dJ9_floorMod_7cf53_7 (by decide) (fun h7 => ?_) (fun h7 => ?_)
  · skip
    have h7 := (xor_sign hxr hn).mp h7
    refine lv_iload_n (pc := 18) hx hb dJ9_floorMod_7cf53_18 rfl (lv_at hl 0 rfl) ?_
    exact hret _ _ _ _ _ (()) (by show zI (x.tmod (n : Int)) = nI (fmN x n); rw [nI_zI, fm_pos h7 h0]) hP hD hS dJ9_floorMod_7cf53_19
  · skip
    have h7 : ¬ 0 ≤ x := fun q => h7 ((xor_sign hxr hn).mpr q)
    refine lv_iload_n (pc := 10) hx hb dJ9_floorMod_7cf53_10 rfl (lv_at hl 0 rfl) ?_
    refine zv_if_eq (pc := 11) (tgt := 18) hx hb (by have := fm_rng (x := x) h0; omega) dJ9_floorMod_7cf53_11 (by decide) (fun h11 => ?_) (fun h11 => ?_)
    · skip
      refine lv_iload_n (pc := 18) hx hb dJ9_floorMod_7cf53_18 rfl (lv_at hl 0 rfl) ?_
      exact hret _ _ _ _ _ (()) (by show zI (x.tmod (n : Int)) = nI (fmN x n); rw [h11, fm_zero h0 h11]; rfl) hP hD hS dJ9_floorMod_7cf53_19
    · skip
      refine lv_iload_n (pc := 14) hx hb dJ9_floorMod_7cf53_14 rfl (lv_at hl 0 rfl) ?_
      refine lv_iload_n (pc := 15) hx hb dJ9_floorMod_7cf53_15 rfl (lv_at hl 2 rfl) ?_
      refine zv_2 (pc := 16) (a := ((n : Nat) : Int)) (b := (x.tmod (n : Int))) ((nI_zI _)) (rfl) ?_
      refine zv_iadd (pc := 16) hx hb dJ9_floorMod_7cf53_16 ?_
      exact hret _ _ _ _ _ (()) (by show zI (x.tmod (n : Int) + ((n : Nat) : Int)) = nI (fmN x n); rw [fm_neg (by omega) h0 h11, ← nI_zI]) hP hD hS dJ9_floorMod_7cf53_17
set_option maxHeartbeats 4000000 in
set_option maxRecDepth 100000 in
theorem c_J7_fill_53178 (l : Launch) (dd : va_G) {cI cL cQ : ClassId} {aa : Nat}  {n : Nat} {f : Nat → Int32} {v : Int32} (hn : n < 2147483648) : CTv l yJ7_fill_53178 wsJ7_fill_53178 ({ frames := 0, cells := 0, slots := 0, locals := 0 } : Room) dd (tysA cI cL cQ) (am_no) [.ref (aa), .int (v)] [(aa, .inl (cI, (n), .inl (f)))] (fun (u : Nat → Int32) => u = fun k => if k < n then v else f k) (fun (u : Nat → Int32) => [(aa, .inl (cI, n, .inl u))]) := by
  refine CTv_of (cc := cJ7_fill_53178) (maxL := 4) (by decide +kernel) rfl (Nat.le_of_ble_eq_true rfl) ?_
  intro p e s m args below meth c A Q ls H locs hx hb hts hown hml hP hK hD hS hA hX hl hret
  have hl : lv_has ls 4 [(0, .ref (aa)), (1, .int (v))] := hl
  refine nv_iconst (pc := 0) (k := 0) hx hb dJ7_fill_53178_0 rfl ?_
  refine lv_istore_n (pc := 1) (lv' := [(2, .int (nI (0))), (0, .ref (aa)), (1, .int (v))]) hx hb dJ7_fill_53178_1 rfl hl (by decide) rfl (fun ls hl => ?_)
  refine lv_aload_n (pc := 2) hx hb dJ7_fill_53178_2 rfl (lv_at hl 1 rfl) ?_
  refine va_alen (pc := 3) hx hb hK hP 0 0 rfl rfl (v := nI n) rfl dJ7_fill_53178_3 ?_
  refine lv_istore_n (pc := 4) (lv' := [(3, .int (nI (n))), (2, .int (nI (0))), (0, .ref (aa)), (1, .int (v))]) hx hb dJ7_fill_53178_4 rfl hl (by decide) rfl (fun ls hl => ?_)
  have e9 : f = (fun k => if k < 0 then v else f k) := fl_0 f v
  rw [e9] at hP hD
  have hP : va_P dd vwCl [(aa, .inl (cI, (n), .inl ((fun k => if k < 0 then v else f k))))] H := hP
  have hD : va_D A [(aa, .inl (cI, (n), .inl ((fun k => if k < 0 then v else f k))))] := hD
  have L5 : ∀ (n9_5 : Nat), ∀ (i : Nat), n - i < n9_5 → (i ≤ n) → ∀ (H : Heap) (locs : List Loc) (ls : Array Slot), va_P dd vwCl [(aa, .inl (cI, (n), .inl ((fun k => if k < i then v else f k))))] H → va_D A [(aa, .inl (cI, (n), .inl ((fun k => if k < i then v else f k))))] → va_S A s.heap H locs → lv_has ls 4 [(0, .ref (aa)), (1, .int (v)), (2, .int (nI (i))), (3, .int (nI (n)))] → W p l e ({ frames := 0, cells := 0, slots := 0, locals := 0 } : Room) s m args below meth c H locs 0 0 Q (F0 m 5 ls []) := by
    intro n9_5
    induction n9_5 with
    | zero => intro i hm; exact absurd hm (Nat.not_lt_zero _)
    | succ n9_5 ih_5 =>
      intro i hm_5 hi H locs ls hP hD hS hl
      refine lv_iload_n (pc := 5) hx hb dJ7_fill_53178_5 rfl (lv_at hl 2 rfl) ?_
      refine lv_iload_n (pc := 6) hx hb dJ7_fill_53178_6 rfl (lv_at hl 3 rfl) ?_
      refine nv_icmp_ge (pc := 7) (tgt := 20) hx hb (a := i) (b := n) (by omega) (by omega) dJ7_fill_53178_7 (by decide) (fun h7 => ?_) (fun h7 => ?_)
      · skip
        exact hret _ _ _ _ ((fun k => if k < i then v else f k)) (by show (fun k => if k < i then v else f k) = _; rw [show i = n by omega]) hP hD hS dJ7_fill_53178_20
      · skip
        refine lv_aload_n (pc := 10) hx hb dJ7_fill_53178_10 rfl (lv_at hl 0 rfl) ?_
        refine lv_iload_n (pc := 11) hx hb dJ7_fill_53178_11 rfl (lv_at hl 2 rfl) ?_
        refine lv_iload_n (pc := 12) hx hb dJ7_fill_53178_12 rfl (lv_at hl 1 rfl) ?_
        refine nv_iast (pc := 13) hx hb hK hP hD hS 0 0 rfl rfl (by omega) (by omega) (ws' := [(aa, .inl (cI, (n), .inl ((upd ((fun k => if k < i then v else f k)) (i) ((v))))))]) rfl dJ7_fill_53178_13 (fun H locs hP hD hS => ?_)
        refine lv_iinc (pc := 14) (v := nI ((i + 1))) (lv' := [(2, .int (nI ((i + 1)))), (0, .ref (aa)), (1, .int (v)), (3, .int (nI (n)))]) hx hb dJ7_fill_53178_14 hl (k := 2) rfl (nI_inc _) (by decide) rfl (fun ls hl => ?_)
        refine lv_goto (pc := 17) (tgt := 5) hx hb dJ7_fill_53178_17 (by decide) ?_
        have e9 : (upd ((fun k => if k < i then v else f k)) (i) ((v))) = (fun k => if k < (i + 1) then v else f k) := fl_upd f v i
        rw [e9] at hP hD
        have hP : va_P dd vwCl [(aa, .inl (cI, (n), .inl ((fun k => if k < (i + 1) then v else f k))))] H := hP
        have hD : va_D A [(aa, .inl (cI, (n), .inl ((fun k => if k < (i + 1) then v else f k))))] := hD
        exact ih_5 ((i + 1)) (by omega) (by omega) _ _ _ hP hD hS (lv_sub hl [1, 2, 0, 3] rfl)
  exact L5 _ (0) (Nat.lt_succ_self _) (by omega) _ _ _ hP hD hS (lv_sub hl [2, 3, 1, 0] rfl)
set_option maxHeartbeats 4000000 in
set_option maxRecDepth 100000 in
theorem c_J7_fill_d0a16 (l : Launch) (dd : va_G) {cI cL cQ : ClassId} {aa : Nat}  {n : Nat} {f : Nat → Int64} {v : Int64} (hn : n < 2147483648) : CTv l yJ7_fill_d0a16 wsJ7_fill_d0a16 ({ frames := 0, cells := 0, slots := 0, locals := 0 } : Room) dd (tysA cI cL cQ) (am_no) [.ref (aa), .long (v)] [(aa, .inl (cL, (n), .inr (.inl (f))))] (fun (u : Nat → Int64) => u = fun k => if k < n then v else f k) (fun (u : Nat → Int64) => [(aa, .inl (cL, n, .inr (.inl u)))]) := by
  refine CTv_of (cc := cJ7_fill_d0a16) (maxL := 5) (by decide +kernel) rfl (Nat.le_of_ble_eq_true rfl) ?_
  intro p e s m args below meth c A Q ls H locs hx hb hts hown hml hP hK hD hS hA hX hl hret
  have hl : lv_has ls 5 [(0, .ref (aa)), (1, .long (v))] := hl
  refine nv_iconst (pc := 0) (k := 0) hx hb dJ7_fill_d0a16_0 rfl ?_
  refine lv_istore_n (pc := 1) (lv' := [(3, .int (nI (0))), (0, .ref (aa)), (1, .long (v))]) hx hb dJ7_fill_d0a16_1 rfl hl (by decide) rfl (fun ls hl => ?_)
  refine lv_aload_n (pc := 2) hx hb dJ7_fill_d0a16_2 rfl (lv_at hl 1 rfl) ?_
  refine va_alen (pc := 3) hx hb hK hP 0 1 rfl rfl (v := nI n) rfl dJ7_fill_d0a16_3 ?_
  refine lv_istore (pc := 4) (lv' := [(4, .int (nI (n))), (3, .int (nI (0))), (0, .ref (aa)), (1, .long (v))]) hx hb dJ7_fill_d0a16_4 hl (by decide) rfl (fun ls hl => ?_)
  have e9 : f = (fun k => if k < 0 then v else f k) := fl_0 f v
  rw [e9] at hP hD
  have hP : va_P dd vwCl [(aa, .inl (cL, (n), .inr (.inl ((fun k => if k < 0 then v else f k)))))] H := hP
  have hD : va_D A [(aa, .inl (cL, (n), .inr (.inl ((fun k => if k < 0 then v else f k)))))] := hD
  have L6 : ∀ (n9_6 : Nat), ∀ (i : Nat), n - i < n9_6 → (i ≤ n) → ∀ (H : Heap) (locs : List Loc) (ls : Array Slot), va_P dd vwCl [(aa, .inl (cL, (n), .inr (.inl ((fun k => if k < i then v else f k)))))] H → va_D A [(aa, .inl (cL, (n), .inr (.inl ((fun k => if k < i then v else f k)))))] → va_S A s.heap H locs → lv_has ls 5 [(0, .ref (aa)), (1, .long (v)), (3, .int (nI (i))), (4, .int (nI (n)))] → W p l e ({ frames := 0, cells := 0, slots := 0, locals := 0 } : Room) s m args below meth c H locs 0 0 Q (F0 m 6 ls []) := by
    intro n9_6
    induction n9_6 with
    | zero => intro i hm; exact absurd hm (Nat.not_lt_zero _)
    | succ n9_6 ih_6 =>
      intro i hm_6 hi H locs ls hP hD hS hl
      refine lv_iload_n (pc := 6) hx hb dJ7_fill_d0a16_6 rfl (lv_at hl 2 rfl) ?_
      refine lv_iload (pc := 7) hx hb dJ7_fill_d0a16_7 (lv_at hl 3 rfl) ?_
      refine nv_icmp_ge (pc := 9) (tgt := 22) hx hb (a := i) (b := n) (by omega) (by omega) dJ7_fill_d0a16_9 (by decide) (fun h9 => ?_) (fun h9 => ?_)
      · skip
        exact hret _ _ _ _ ((fun k => if k < i then v else f k)) (by show (fun k => if k < i then v else f k) = _; rw [show i = n by omega]) hP hD hS dJ7_fill_d0a16_22
      · skip
        refine lv_aload_n (pc := 12) hx hb dJ7_fill_d0a16_12 rfl (lv_at hl 0 rfl) ?_
        refine lv_iload_n (pc := 13) hx hb dJ7_fill_d0a16_13 rfl (lv_at hl 2 rfl) ?_
        refine lv_lload_n (pc := 14) hx hb dJ7_fill_d0a16_14 rfl (lv_at hl 1 rfl) ?_
        refine nv_last (pc := 15) hx hb hK hP hD hS 0 1 rfl rfl (by omega) (by omega) (ws' := [(aa, .inl (cL, (n), .inr (.inl ((vp_updL ((fun k => if k < i then v else f k)) (i) (v))))))]) rfl dJ7_fill_d0a16_15 (fun H locs hP hD hS => ?_)
        refine lv_iinc (pc := 16) (v := nI ((i + 1))) (lv' := [(3, .int (nI ((i + 1)))), (0, .ref (aa)), (1, .long (v)), (4, .int (nI (n)))]) hx hb dJ7_fill_d0a16_16 hl (k := 2) rfl (nI_inc _) (by decide) rfl (fun ls hl => ?_)
        refine lv_goto (pc := 19) (tgt := 6) hx hb dJ7_fill_d0a16_19 (by decide) ?_
        have e9 : (vp_updL ((fun k => if k < i then v else f k)) (i) (v)) = (fun k => if k < (i + 1) then v else f k) := fl_updL f v i
        rw [e9] at hP hD
        have hP : va_P dd vwCl [(aa, .inl (cL, (n), .inr (.inl ((fun k => if k < (i + 1) then v else f k)))))] H := hP
        have hD : va_D A [(aa, .inl (cL, (n), .inr (.inl ((fun k => if k < (i + 1) then v else f k)))))] := hD
        exact ih_6 ((i + 1)) (by omega) (by omega) _ _ _ hP hD hS (lv_sub hl [1, 2, 0, 3] rfl)
  exact L6 _ (0) (Nat.lt_succ_self _) (by omega) _ _ _ hP hD hS (lv_sub hl [2, 3, 1, 0] rfl)
set_option maxHeartbeats 4000000 in
set_option maxRecDepth 100000 in
theorem c_X0_isHold (l : Launch) (dd : va_G) {cI cL cQ : ClassId}   {h : Int} (hr : -2147483648 ≤ h ∧ h < 2147483648) : CTi l yX0_isHold wsX0_isHold ({ frames := 0, cells := 0, slots := 0, locals := 0 } : Room) dd (tysA cI cL cQ) (am_no) [.int (zI (h))] [] (fun (r : Int32) (u : Unit) => r = if (0 ≤ h ∧ h < 6) then 1 else 0) (fun (_ : Unit) => []) := by
  refine CTz_of (cc := cX0_isHold) (maxL := 1) (by decide +kernel) rfl (Nat.le_of_ble_eq_true rfl) ?_
  intro p e s m args below meth c A Q ls H locs hx hb hts hown hml hP hK hD hS hA hX hl hret
  have hl : lv_has ls 1 [(0, .int (zI (h)))] := hl
  refine lv_iload_n (pc := 0) hx hb dX0_isHold_0 rfl (lv_at hl 0 rfl) ?_
  refine zv_if_lt (pc := 1) (tgt := 14) hx hb (by omega) dX0_isHold_1 (by decide) (fun h1 => ?_) (fun h1 => ?_)
  · skip
    refine nv_iconst (pc := 14) (k := 0) hx hb dX0_isHold_14 rfl ?_
    exact hret _ _ _ _ _ (()) (by first | rfl | (split <;> rfl)) (by first | exact (if_pos (by omega)).symm | exact (if_neg (by omega)).symm) hP hD hS dX0_isHold_15
  · skip
    refine lv_iload_n (pc := 4) hx hb dX0_isHold_4 rfl (lv_at hl 0 rfl) ?_
    refine nv_bipush (pc := 5) (k := 6) hx hb dX0_isHold_5 rfl (by decide) ?_
    refine zv_2 (pc := 7) (a := ((6 : Nat) : Int)) (b := h) ((nI_zI _)) (rfl) ?_
    refine zv_icmp_ge (pc := 7) (tgt := 14) hx hb (by omega) (by omega) dX0_isHold_7 (by decide) (fun h7 => ?_) (fun h7 => ?_)
    · skip
      refine nv_iconst (pc := 14) (k := 0) hx hb dX0_isHold_14 rfl ?_
      exact hret _ _ _ _ _ (()) (by first | rfl | (split <;> rfl)) (by first | exact (if_pos (by omega)).symm | exact (if_neg (by omega)).symm) hP hD hS dX0_isHold_15
    · skip
      refine nv_iconst (pc := 10) (k := 1) hx hb dX0_isHold_10 rfl ?_
      refine lv_goto (pc := 11) (tgt := 15) hx hb dX0_isHold_11 (by decide) ?_
      exact hret _ _ _ _ _ (()) (by first | rfl | (split <;> rfl)) (by first | exact (if_pos (by omega)).symm | exact (if_neg (by omega)).symm) hP hD hS dX0_isHold_15
set_option maxHeartbeats 4000000 in
set_option maxRecDepth 100000 in
theorem c_X0_isSign (l : Launch) (dd : va_G) {cI cL cQ : ClassId}   {e9 : Int} (hr : -2147483648 ≤ e9 ∧ e9 < 2147483648) : CTi l yX0_isSign wsX0_isSign ({ frames := 0, cells := 0, slots := 0, locals := 0 } : Room) dd (tysA cI cL cQ) (am_no) [.int (zI (e9))] [] (fun (r : Int32) (u : Unit) => r = if (e9 = 1 ∨ e9 = -1) then 1 else 0) (fun (_ : Unit) => []) := by
  refine CTz_of (cc := cX0_isSign) (maxL := 1) (by decide +kernel) rfl (Nat.le_of_ble_eq_true rfl) ?_
  intro p e s m args below meth c A Q ls H locs hx hb hts hown hml hP hK hD hS hA hX hl hret
  have hl : lv_has ls 1 [(0, .int (zI (e9)))] := hl
  refine lv_iload_n (pc := 0) hx hb dX0_isSign_0 rfl (lv_at hl 0 rfl) ?_
  refine nv_iconst (pc := 1) (k := 1) hx hb dX0_isSign_1 rfl ?_
  refine zv_2 (pc := 2) (a := ((1 : Nat) : Int)) (b := e9) ((nI_zI _)) (rfl) ?_
  refine zv_icmp_eq (pc := 2) (tgt := 10) hx hb (by omega) (by omega) dX0_isSign_2 (by decide) (fun h2 => ?_) (fun h2 => ?_)
  · skip
    refine nv_iconst (pc := 10) (k := 1) hx hb dX0_isSign_10 rfl ?_
    refine lv_goto (pc := 11) (tgt := 15) hx hb dX0_isSign_11 (by decide) ?_
    exact hret _ _ _ _ _ (()) (by first | rfl | (split <;> rfl)) (by first | exact (if_pos (by omega)).symm | exact (if_neg (by omega)).symm) hP hD hS dX0_isSign_15
  · skip
    refine lv_iload_n (pc := 5) hx hb dX0_isSign_5 rfl (lv_at hl 0 rfl) ?_
    refine lv_iconst (pc := 6) (v := zI (-1)) hx hb dX0_isSign_6 rfl ?_
    refine zv_icmp_ne (pc := 7) (tgt := 14) hx hb (by omega) (by omega) dX0_isSign_7 (by decide) (fun h7 => ?_) (fun h7 => ?_)
    · skip
      refine nv_iconst (pc := 14) (k := 0) hx hb dX0_isSign_14 rfl ?_
      exact hret _ _ _ _ _ (()) (by first | rfl | (split <;> rfl)) (by first | exact (if_pos (by omega)).symm | exact (if_neg (by omega)).symm) hP hD hS dX0_isSign_15
    · skip
      refine nv_iconst (pc := 10) (k := 1) hx hb dX0_isSign_10 rfl ?_
      refine lv_goto (pc := 11) (tgt := 15) hx hb dX0_isSign_11 (by decide) ?_
      exact hret _ _ _ _ _ (()) (by first | rfl | (split <;> rfl)) (by first | exact (if_pos (by omega)).symm | exact (if_neg (by omega)).symm) hP hD hS dX0_isSign_15
set_option maxHeartbeats 4000000 in
set_option maxRecDepth 100000 in
theorem c_X1_isSign (l : Launch) (dd : va_G) {cI cL cQ : ClassId}   {e9 : Int} (hr : -2147483648 ≤ e9 ∧ e9 < 2147483648) : CTi l yX1_isSign wsX1_isSign ({ frames := 0, cells := 0, slots := 0, locals := 0 } : Room) dd (tysA cI cL cQ) (am_no) [.int (zI (e9))] [] (fun (r : Int32) (u : Unit) => r = if (e9 = 1 ∨ e9 = -1) then 1 else 0) (fun (_ : Unit) => []) := by
  refine CTz_of (cc := cX1_isSign) (maxL := 1) (by decide +kernel) rfl (Nat.le_of_ble_eq_true rfl) ?_
  intro p e s m args below meth c A Q ls H locs hx hb hts hown hml hP hK hD hS hA hX hl hret
  have hl : lv_has ls 1 [(0, .int (zI (e9)))] := hl
  refine lv_iload_n (pc := 0) hx hb dX1_isSign_0 rfl (lv_at hl 0 rfl) ?_
  refine nv_iconst (pc := 1) (k := 1) hx hb dX1_isSign_1 rfl ?_
  refine zv_2 (pc := 2) (a := ((1 : Nat) : Int)) (b := e9) ((nI_zI _)) (rfl) ?_
  refine zv_icmp_eq (pc := 2) (tgt := 10) hx hb (by omega) (by omega) dX1_isSign_2 (by decide) (fun h2 => ?_) (fun h2 => ?_)
  · skip
    refine nv_iconst (pc := 10) (k := 1) hx hb dX1_isSign_10 rfl ?_
    refine lv_goto (pc := 11) (tgt := 15) hx hb dX1_isSign_11 (by decide) ?_
    exact hret _ _ _ _ _ (()) (by first | rfl | (split <;> rfl)) (by first | exact (if_pos (by omega)).symm | exact (if_neg (by omega)).symm) hP hD hS dX1_isSign_15
  · skip
    refine lv_iload_n (pc := 5) hx hb dX1_isSign_5 rfl (lv_at hl 0 rfl) ?_
    refine lv_iconst (pc := 6) (v := zI (-1)) hx hb dX1_isSign_6 rfl ?_
    refine zv_icmp_ne (pc := 7) (tgt := 14) hx hb (by omega) (by omega) dX1_isSign_7 (by decide) (fun h7 => ?_) (fun h7 => ?_)
    · skip
      refine nv_iconst (pc := 14) (k := 0) hx hb dX1_isSign_14 rfl ?_
      exact hret _ _ _ _ _ (()) (by first | rfl | (split <;> rfl)) (by first | exact (if_pos (by omega)).symm | exact (if_neg (by omega)).symm) hP hD hS dX1_isSign_15
    · skip
      refine nv_iconst (pc := 10) (k := 1) hx hb dX1_isSign_10 rfl ?_
      refine lv_goto (pc := 11) (tgt := 15) hx hb dX1_isSign_11 (by decide) ?_
      exact hret _ _ _ _ _ (()) (by first | rfl | (split <;> rfl)) (by first | exact (if_pos (by omega)).symm | exact (if_neg (by omega)).symm) hP hD hS dX1_isSign_15
set_option maxHeartbeats 4000000 in
set_option maxRecDepth 100000 in
theorem c_X0_isClass (l : Launch) (dd : va_G) {ad : Nat → Nat} {cI cL cQ : ClassId} {tR : Nat}  {ix : Nat → Int32} {pw : Nat → Int32} {sg : Nat → Int32} {tm : Nat → Int32} {hd : Nat → Nat → Int32} {wk : Nat → Int64} {rc : Nat → Int64} {lc : Nat → Int64} {P : Nat} {G : Nat} {D : Nat} {F : Nat} {i : Int} (hi : -2147483648 ≤ i ∧ i < 2147483648) (hD2 : D < 2147483648) : CTi l yX0_isClass wsX0_isClass ({ frames := 0, cells := 0, slots := 0, locals := 0 } : Room) dd (tysA cI cL cQ) (rX tR) [.ref (ad 0), .int (zI (i))] (wC ad cI cL cQ (ix) (pw) (sg) (tm) (hd) (wk) (rc) (lc) (P) (G) (D) (F)) (fun (r : Int32) (u : Unit) => r = if (0 ≤ i ∧ i < (D : Int)) then 1 else 0) (fun (_ : Unit) => (wC ad cI cL cQ (ix) (pw) (sg) (tm) (hd) (wk) (rc) (lc) (P) (G) (D) (F))) := by
  refine CTz_of (cc := cX0_isClass) (maxL := 2) (by decide +kernel) rfl (Nat.le_of_ble_eq_true rfl) ?_
  intro p e s m args below meth c A Q ls H locs hx hb hts hown hml hP hK hD hS hA hX hl hret
  have hin : ∀ w ∈ wsX00, w ∈ wsX0_isClass := by decide +kernel
  have hl : lv_has ls 2 [(0, .ref (ad 0)), (1, .int (zI (i)))] := hl
  refine lv_iload_n (pc := 0) hx hb dX0_isClass_0 rfl (lv_at hl 1 rfl) ?_
  refine zv_if_lt (pc := 1) (tgt := 16) hx hb (by omega) dX0_isClass_1 (by decide) (fun h1 => ?_) (fun h1 => ?_)
  · skip
    refine nv_iconst (pc := 16) (k := 0) hx hb dX0_isClass_16 rfl ?_
    exact hret _ _ _ _ _ (()) (by first | rfl | (split <;> rfl)) (by first | exact (if_pos (by omega)).symm | exact (if_neg (by omega)).symm) hP hD hS dX0_isClass_17
  · skip
    refine lv_iload_n (pc := 4) hx hb dX0_isClass_4 rfl (lv_at hl 1 rfl) ?_
    refine lv_aload_n (pc := 5) hx hb dX0_isClass_5 rfl (lv_at hl 0 rfl) ?_
    refine va_get (pc := 6) (D := dd) (ci := 0) (v := .int (nI (D))) (C := RX0) (T := TX0) (N := 12) hx hb hts hin hown hK hP 0 rfl rfl 10 (by decide) (hts (.fieldLink RX0 74 "TurningSums" "d" "I") (by decide +kernel)) (fun _ h9 => h9) rfl dX0_isClass_6 ?_
    refine zv_2 (pc := 9) (a := ((D : Nat) : Int)) (b := i) ((nI_zI _)) (rfl) ?_
    refine zv_icmp_ge (pc := 9) (tgt := 16) hx hb (by omega) (by omega) dX0_isClass_9 (by decide) (fun h9 => ?_) (fun h9 => ?_)
    · skip
      refine nv_iconst (pc := 16) (k := 0) hx hb dX0_isClass_16 rfl ?_
      exact hret _ _ _ _ _ (()) (by first | rfl | (split <;> rfl)) (by first | exact (if_pos (by omega)).symm | exact (if_neg (by omega)).symm) hP hD hS dX0_isClass_17
    · skip
      refine nv_iconst (pc := 12) (k := 1) hx hb dX0_isClass_12 rfl ?_
      refine lv_goto (pc := 13) (tgt := 17) hx hb dX0_isClass_13 (by decide) ?_
      exact hret _ _ _ _ _ (()) (by first | rfl | (split <;> rfl)) (by first | exact (if_pos (by omega)).symm | exact (if_neg (by omega)).symm) hP hD hS dX0_isClass_17
set_option maxHeartbeats 4000000 in
set_option maxRecDepth 100000 in
theorem c_X0_isSet (l : Launch) (dd : va_G) {ad : Nat → Nat} {cI cL cQ : ClassId} {tR : Nat}  {ix : Nat → Int32} {pw : Nat → Int32} {sg : Nat → Int32} {tm : Nat → Int32} {hd : Nat → Nat → Int32} {wk : Nat → Int64} {rc : Nat → Int64} {lc : Nat → Int64} {P : Nat} {G : Nat} {D : Nat} {F : Nat} {b : Int} (hb9 : -2147483648 ≤ b ∧ b < 2147483648) (h1 : 1 ≤ D) (h2 : D ≤ 12) : CTi l yX0_isSet wsX0_isSet ({ frames := 0, cells := 0, slots := 0, locals := 0 } : Room) dd (tysA cI cL cQ) (rX tR) [.ref (ad 0), .int (zI (b))] (wC ad cI cL cQ (ix) (pw) (sg) (tm) (hd) (wk) (rc) (lc) (P) (G) (D) (F)) (fun (r : Int32) (u : Unit) => r = if (0 ≤ b ∧ b < ((2 ^ D : Nat) : Int)) then 1 else 0) (fun (_ : Unit) => (wC ad cI cL cQ (ix) (pw) (sg) (tm) (hd) (wk) (rc) (lc) (P) (G) (D) (F))) := by
  refine CTz_of (cc := cX0_isSet) (maxL := 2) (by decide +kernel) rfl (Nat.le_of_ble_eq_true rfl) ?_
  intro p e s m args below meth c A Q ls H locs hx hb hts hown hml hP hK hD hS hA hX hl hret
  have hin : ∀ w ∈ wsX00, w ∈ wsX0_isSet := by decide +kernel
  have hl : lv_has ls 2 [(0, .ref (ad 0)), (1, .int (zI (b)))] := hl
  refine lv_iload_n (pc := 0) hx hb dX0_isSet_0 rfl (lv_at hl 1 rfl) ?_
  refine lv_aload_n (pc := 1) hx hb dX0_isSet_1 rfl (lv_at hl 0 rfl) ?_
  refine va_get (pc := 2) (D := dd) (ci := 0) (v := .int (nI (D))) (C := RX0) (T := TX0) (N := 12) hx hb hts hin hown hK hP 0 rfl rfl 10 (by decide) (hts (.fieldLink RX0 74 "TurningSums" "d" "I") (by decide +kernel)) (fun _ h9 => h9) rfl dX0_isSet_2 ?_
  refine lv_iushr (pc := 5) hx hb dX0_isSet_5 rfl ?_
  refine lv_if_ne (pc := 6) (tgt := 13) hx hb dX0_isSet_6 (by decide) (fun h6 => ?_) (fun h6 => ?_)
  · skip
    have h6 : ¬ (0 ≤ b ∧ b < ((2 ^ D : Nat) : Int)) := fun q => h6 ((set_iff hb9 h1 h2).mpr q)
    refine nv_iconst (pc := 13) (k := 0) hx hb dX0_isSet_13 rfl ?_
    exact hret _ _ _ _ _ (()) (by first | rfl | (split <;> rfl)) (by first | exact (if_pos h6).symm | exact (if_neg h6).symm) hP hD hS dX0_isSet_14
  · skip
    have h6 := (set_iff hb9 h1 h2).mp h6
    refine nv_iconst (pc := 9) (k := 1) hx hb dX0_isSet_9 rfl ?_
    refine lv_goto (pc := 10) (tgt := 14) hx hb dX0_isSet_10 (by decide) ?_
    exact hret _ _ _ _ _ (()) (by first | rfl | (split <;> rfl)) (by first | exact (if_pos h6).symm | exact (if_neg h6).symm) hP hD hS dX0_isSet_14
set_option maxHeartbeats 4000000 in
set_option maxRecDepth 100000 in
theorem c_X0_classOf (l : Launch) (dd : va_G) {ad : Nat → Nat} {cI cL cQ : ClassId} {tR : Nat}  {ix : Nat → Int32} {pw : Nat → Int32} {sg : Nat → Int32} {tm : Nat → Int32} {hd : Nat → Nat → Int32} {wk : Nat → Int64} {rc : Nat → Int64} {lc : Nat → Int64} {P : Nat} {G : Nat} {D : Nat} {F : Nat} {x : Nat} (hG : okT P D ix) (h1 : x % P ≠ 0) (h2 : x < 2147483648) : CTi l yX0_classOf wsX0_classOf ({ frames := 0, cells := 0, slots := 0, locals := 0 } : Room) dd (tysA cI cL cQ) (rX tR) [.ref (ad 0), .int (nI (x))] (wC ad cI cL cQ (ix) (pw) (sg) (tm) (hd) (wk) (rc) (lc) (P) (G) (D) (F)) (fun (r : Int32) (u : Unit) => r = nI (clsN P D x)) (fun (_ : Unit) => (wC ad cI cL cQ (ix) (pw) (sg) (tm) (hd) (wk) (rc) (lc) (P) (G) (D) (F))) := by
  refine CTi_of (cc := cX0_classOf) (maxL := 2) (by decide +kernel) rfl (Nat.le_of_ble_eq_true rfl) ?_
  intro p e s m args below meth c A Q ls H locs hx hb hts hown hml hP hK hD hS hA hX hl hret
  have hin : ∀ w ∈ wsX00, w ∈ wsX0_classOf := by decide +kernel
  have hl : lv_has ls 2 [(0, .ref (ad 0)), (1, .int (nI (x)))] := hl
  obtain ⟨g1, g2, g3, g4, hix⟩ := hG
  have hm := Nat.mod_lt x (show 0 < P by omega)
  have hlt := ixN_le P (x % P)
  refine lv_aload_n (pc := 0) hx hb dX0_classOf_0 rfl (lv_at hl 0 rfl) ?_
  refine va_get (pc := 1) (D := dd) (ci := 0) (v := .ref (ad 1)) (C := RX0) (T := TX0) (N := 12) hx hb hts hin hown hK hP 0 rfl rfl 0 (by decide) (hts (.fieldLink RX0 9 "TurningSums" "indexOf" "[I") (by decide +kernel)) (fun _ h9 => h9) rfl dX0_classOf_1 ?_
  refine lv_iload_n (pc := 4) hx hb dX0_classOf_4 rfl (lv_at hl 1 rfl) ?_
  refine lv_aload_n (pc := 5) hx hb dX0_classOf_5 rfl (lv_at hl 0 rfl) ?_
  refine va_get (pc := 6) (D := dd) (ci := 0) (v := .int (nI (P))) (C := RX0) (T := TX0) (N := 12) hx hb hts hin hown hK hP 0 rfl rfl 8 (by decide) (hts (.fieldLink RX0 49 "TurningSums" "p" "I") (by decide +kernel)) (fun _ h9 => h9) rfl dX0_classOf_6 ?_
  refine nv_irem (pc := 9) hx hb (by omega) (by omega) (by omega) dX0_classOf_9 ?_
  refine nv_iald (pc := 10) hx hb hK hP 1 0 rfl rfl (i := (x % P)) (by omega) (by decide) (v := nI ((ixN P ((x % P))))) (hix _ (by omega) (by omega)) dX0_classOf_10 ?_
  refine lv_aload_n (pc := 11) hx hb dX0_classOf_11 rfl (lv_at hl 0 rfl) ?_
  refine va_get (pc := 12) (D := dd) (ci := 0) (v := .int (nI (D))) (C := RX0) (T := TX0) (N := 12) hx hb hts hin hown hK hP 0 rfl rfl 10 (by decide) (hts (.fieldLink RX0 74 "TurningSums" "d" "I") (by decide +kernel)) (fun _ h9 => h9) rfl dX0_classOf_12 ?_
  refine nv_irem (pc := 15) hx hb (by omega) (by omega) (by omega) dX0_classOf_15 ?_
  exact hret _ _ _ _ _ (()) (rfl) hP hD hS dX0_classOf_16
set_option maxHeartbeats 4000000 in
set_option maxRecDepth 100000 in
theorem c_X0_sharesDivisor (l : Launch) (dd : va_G) {ad : Nat → Nat} {cI cL cQ : ClassId} {tR : Nat}  {ix : Nat → Int32} {pw : Nat → Int32} {sg : Nat → Int32} {tm : Nat → Int32} {hd : Nat → Nat → Int32} {wk : Nat → Int64} {rc : Nat → Int64} {lc : Nat → Int64} {P : Nat} {G : Nat} {D : Nat} {F : Nat} {t : Int} (ht : -2147483648 ≤ t ∧ t < 2147483648) (h1 : 1 ≤ D) (h2 : D ≤ 12) : CTi l yX0_sharesDivisor wsX0_sharesDivisor ({ frames := 0, cells := 0, slots := 0, locals := 0 } : Room) dd (tysA cI cL cQ) (rX tR) [.ref (ad 0), .int (zI (t))] (wC ad cI cL cQ (ix) (pw) (sg) (tm) (hd) (wk) (rc) (lc) (P) (G) (D) (F)) (fun (r : Int32) (u : Unit) => r = if (coN D t = false) then 1 else 0) (fun (_ : Unit) => (wC ad cI cL cQ (ix) (pw) (sg) (tm) (hd) (wk) (rc) (lc) (P) (G) (D) (F))) := by
  refine CTz_of (cc := cX0_sharesDivisor) (maxL := 3) (by decide +kernel) rfl (Nat.le_of_ble_eq_true rfl) ?_
  intro p e s m args below meth c A Q ls H locs hx hb hts hown hml hP hK hD hS hA hX hl hret
  have hin : ∀ w ∈ wsX00, w ∈ wsX0_sharesDivisor := by decide +kernel
  have hl : lv_has ls 3 [(0, .ref (ad 0)), (1, .int (zI (t)))] := hl
  refine nv_iconst (pc := 0) (k := 2) hx hb dX0_sharesDivisor_0 rfl ?_
  refine lv_istore_n (pc := 1) (lv' := [(2, .int (nI (2))), (0, .ref (ad 0)), (1, .int (zI (t)))]) hx hb dX0_sharesDivisor_1 rfl hl (by decide) rfl (fun ls hl => ?_)
  have L2 : ∀ (n9_2 : Nat), ∀ (q : Nat), D + 1 - q < n9_2 → (2 ≤ q ∧ q ≤ D + 1) → (∀ k, 2 ≤ k → k < q → ¬ (D % k = 0 ∧ t.tmod (k : Int) = 0)) → ∀ (H : Heap) (locs : List Loc) (ls : Array Slot), va_P dd vwCl (wC ad cI cL cQ (ix) (pw) (sg) (tm) (hd) (wk) (rc) (lc) (P) (G) (D) (F)) H → va_D A (wC ad cI cL cQ (ix) (pw) (sg) (tm) (hd) (wk) (rc) (lc) (P) (G) (D) (F)) → va_S A s.heap H locs → lv_has ls 3 [(0, .ref (ad 0)), (1, .int (zI (t))), (2, .int (nI (q)))] → W p l e ({ frames := 0, cells := 0, slots := 0, locals := 0 } : Room) s m args below meth c H locs 0 0 Q (F0 m 2 ls []) := by
    intro n9_2
    induction n9_2 with
    | zero => intro q hm; exact absurd hm (Nat.not_lt_zero _)
    | succ n9_2 ih_2 =>
      intro q hm_2 hq hn9 H locs ls hP hD hS hl
      refine lv_iload_n (pc := 2) hx hb dX0_sharesDivisor_2 rfl (lv_at hl 2 rfl) ?_
      refine lv_aload_n (pc := 3) hx hb dX0_sharesDivisor_3 rfl (lv_at hl 0 rfl) ?_
      refine va_get (pc := 4) (D := dd) (ci := 0) (v := .int (nI (D))) (C := RX0) (T := TX0) (N := 12) hx hb hts hin hown hK hP 0 rfl rfl 10 (by decide) (hts (.fieldLink RX0 74 "TurningSums" "d" "I") (by decide +kernel)) (fun _ h9 => h9) rfl dX0_sharesDivisor_4 ?_
      refine nv_icmp_gt (pc := 7) (tgt := 33) hx hb (a := q) (b := D) (by omega) (by omega) dX0_sharesDivisor_7 (by decide) (fun h7 => ?_) (fun h7 => ?_)
      · skip
        refine nv_iconst (pc := 33) (k := 0) hx hb dX0_sharesDivisor_33 rfl ?_
        exact hret _ _ _ _ _ (()) (by first | rfl | (split <;> rfl)) (by refine (if_neg (fun q9 => ?_)).symm; rw [co_yes (by omega) (fun k a b => hn9 k a (by omega))] at q9; cases q9) hP hD hS dX0_sharesDivisor_34
      · skip
        refine lv_aload_n (pc := 10) hx hb dX0_sharesDivisor_10 rfl (lv_at hl 0 rfl) ?_
        refine va_get (pc := 11) (D := dd) (ci := 0) (v := .int (nI (D))) (C := RX0) (T := TX0) (N := 12) hx hb hts hin hown hK hP 0 rfl rfl 10 (by decide) (hts (.fieldLink RX0 74 "TurningSums" "d" "I") (by decide +kernel)) (fun _ h9 => h9) rfl dX0_sharesDivisor_11 ?_
        refine lv_iload_n (pc := 14) hx hb dX0_sharesDivisor_14 rfl (lv_at hl 2 rfl) ?_
        refine nv_irem (pc := 15) hx hb (by omega) (by omega) (by omega) dX0_sharesDivisor_15 ?_
        refine nv_if_ne (pc := 16) (tgt := 27) hx hb (a := (D % q)) (Nat.lt_trans (Nat.mod_lt _ (by omega)) (by omega)) dX0_sharesDivisor_16 (by decide) (fun h16 => ?_) (fun h16 => ?_)
        · skip
          refine lv_iinc (pc := 27) (v := nI ((q + 1))) (lv' := [(2, .int (nI ((q + 1)))), (0, .ref (ad 0)), (1, .int (zI (t)))]) hx hb dX0_sharesDivisor_27 hl (k := 2) rfl (nI_inc _) (by decide) rfl (fun ls hl => ?_)
          refine lv_goto (pc := 30) (tgt := 2) hx hb dX0_sharesDivisor_30 (by decide) ?_
          exact ih_2 ((q + 1)) (by omega) (by omega) (fun k a b w => (Nat.lt_or_ge k q).elim (fun z => hn9 k a z w) (fun z => by have e : k = q := (by omega); subst e; omega)) _ _ _ hP hD hS (lv_sub hl [1, 2, 0] rfl)
        · skip
          refine lv_iload_n (pc := 19) hx hb dX0_sharesDivisor_19 rfl (lv_at hl 1 rfl) ?_
          refine lv_iload_n (pc := 20) hx hb dX0_sharesDivisor_20 rfl (lv_at hl 2 rfl) ?_
          refine lv_irem (pc := 21) hx hb dX0_sharesDivisor_21 (nI_ne0 (by omega) (by omega)) ?_
          refine tq_i (y := zI ((t.tmod (q : Int)))) (zI_rem ht (by omega) (by omega)) ?_
          refine zv_if_ne (pc := 22) (tgt := 27) hx hb (by have := fm_rng (x := t) (show 0 < q by omega); omega) dX0_sharesDivisor_22 (by decide) (fun h22 => ?_) (fun h22 => ?_)
          · skip
            refine lv_iinc (pc := 27) (v := nI ((q + 1))) (lv' := [(2, .int (nI ((q + 1)))), (0, .ref (ad 0)), (1, .int (zI (t)))]) hx hb dX0_sharesDivisor_27 hl (k := 2) rfl (nI_inc _) (by decide) rfl (fun ls hl => ?_)
            refine lv_goto (pc := 30) (tgt := 2) hx hb dX0_sharesDivisor_30 (by decide) ?_
            exact ih_2 ((q + 1)) (by omega) (by omega) (fun k a b w => (Nat.lt_or_ge k q).elim (fun z => hn9 k a z w) (fun z => by have e : k = q := (by omega); subst e; omega)) _ _ _ hP hD hS (lv_sub hl [1, 2, 0] rfl)
          · skip
            refine nv_iconst (pc := 25) (k := 1) hx hb dX0_sharesDivisor_25 rfl ?_
            exact hret _ _ _ _ _ (()) (by first | rfl | (split <;> rfl)) ((if_pos (co_no (by omega) hq.1 h16 h22)).symm) hP hD hS dX0_sharesDivisor_26
  exact L2 _ (2) (Nat.lt_succ_self _) (by omega) (fun k a b => by omega) _ _ _ hP hD hS (lv_sub hl [1, 2, 0] rfl)
set_option maxHeartbeats 4000000 in
set_option maxRecDepth 100000 in
theorem c_X1_in (l : Launch) (dd : va_G) {cI cL cQ : ClassId}   {v : Int64} {lo : Int64} {up : Int64}  : CTi l yX1_in wsX1_in ({ frames := 0, cells := 0, slots := 0, locals := 0 } : Room) dd (tysA cI cL cQ) (am_no) [.long (v), .long (lo), .long (up)] [] (fun (r : Int32) (u : Unit) => r = if (lo ≤ v ∧ v ≤ up) then 1 else 0) (fun (_ : Unit) => []) := by
  refine CTz_of (cc := cX1_in) (maxL := 6) (by decide +kernel) rfl (Nat.le_of_ble_eq_true rfl) ?_
  intro p e s m args below meth c A Q ls H locs hx hb hts hown hml hP hK hD hS hA hX hl hret
  have hl : lv_has ls 6 [(0, .long (v)), (2, .long (lo)), (4, .long (up))] := hl
  refine lv_lload_n (pc := 0) hx hb dX1_in_0 rfl (lv_at hl 0 rfl) ?_
  refine lv_lload_n (pc := 1) hx hb dX1_in_1 rfl (lv_at hl 1 rfl) ?_
  refine W.lcmp (pc := 2) hx hb dX1_in_2 ?_
  refine cv_if_lt (pc := 3) (tgt := 17) hx hb dX1_in_3 (by decide) (fun h3 => ?_) (fun h3 => ?_)
  · skip
    refine nv_iconst (pc := 17) (k := 0) hx hb dX1_in_17 rfl ?_
    exact hret _ _ _ _ _ (()) (by first | rfl | (split <;> rfl)) (by refine (if_neg (fun q => ?_)).symm; exact absurd q.1 (Int64.not_le.mpr h3)) hP hD hS dX1_in_18
  · skip
    refine lv_lload_n (pc := 6) hx hb dX1_in_6 rfl (lv_at hl 0 rfl) ?_
    refine lv_lload (pc := 7) hx hb dX1_in_7 (lv_at hl 2 rfl) ?_
    refine W.lcmp (pc := 9) hx hb dX1_in_9 ?_
    refine cv_if_gt (pc := 10) (tgt := 17) hx hb dX1_in_10 (by decide) (fun h10 => ?_) (fun h10 => ?_)
    · skip
      refine nv_iconst (pc := 17) (k := 0) hx hb dX1_in_17 rfl ?_
      exact hret _ _ _ _ _ (()) (by first | rfl | (split <;> rfl)) (by refine (if_neg (fun q => ?_)).symm; exact absurd q.2 (Int64.not_le.mpr h10)) hP hD hS dX1_in_18
    · skip
      refine nv_iconst (pc := 13) (k := 1) hx hb dX1_in_13 rfl ?_
      refine lv_goto (pc := 14) (tgt := 18) hx hb dX1_in_14 (by decide) ?_
      exact hret _ _ _ _ _ (()) (by first | rfl | (split <;> rfl)) ((if_pos ⟨Int64.not_lt.mp h3, Int64.not_lt.mp h10⟩).symm) hP hD hS dX1_in_18
set_option maxHeartbeats 4000000 in
set_option maxRecDepth 100000 in
theorem c_X1_isHold (l : Launch) (dd : va_G) {cI cL cQ : ClassId}   {h : Int} (hr : -2147483648 ≤ h ∧ h < 2147483648) : CTi l yX1_isHold wsX1_isHold ({ frames := 1, cells := 0, slots := 0, locals := 25 } : Room) dd (tysA cI cL cQ) (am_no) [.int (zI (h))] [] (fun (r : Int32) (u : Unit) => r = if (0 ≤ h ∧ h < 6) then 1 else 0) (fun (_ : Unit) => []) := by
  refine CTz_of (cc := cX1_isHold) (maxL := 1) (by decide +kernel) rfl (Nat.le_of_ble_eq_true rfl) ?_
  intro p e s m args below meth c A Q ls H locs hx hb hts hown hml hP hK hD hS hA hX hl hret
  have hl : lv_has ls 1 [(0, .int (zI (h)))] := hl
  refine lv_iload_n (pc := 0) hx hb dX1_isHold_0 rfl (lv_at hl 0 rfl) ?_
  refine lv_i2l (pc := 1) (v := zL (h)) hx hb dX1_isHold_1 (zL_zI (by omega) (by omega)) ?_
  refine lv_lconst (pc := 2) (v := zL 0) hx hb dX1_isHold_2 (by decide) ?_
  refine tq_ldc2 (pc := 3) (k := (5)) hx hb hown (hts (.constantLong RX1 36 (5)) (by decide +kernel)) dX1_isHold_3 ?_
  refine CTi_S0 (pc := 6) am_no_ok (As := [.long (zL (h)), .long (zL 0), .long (zL (5))]) (rest := []) ⟨hx, hb, hml, hown, hts⟩ (c_X1_in l dd ) (va_cwS 3 hts gX1_isHold_X1_in rfl rfl rfl (by decide +kernel) ⟨Nat.le_of_ble_eq_true rfl, Nat.le_of_ble_eq_true rfl⟩) hK hP hD hS hA hX rfl hl.1 rfl (Nat.le_of_ble_eq_true rfl) ⟨Nat.zero_le _, Nat.zero_le _⟩ dX1_isHold_6 (fun r u H locs hw hP hD hS => ?_)
  try dsimp only at hw
  subst hw
  exact hret _ _ _ _ _ (()) (by first | rfl | (split <;> rfl)) (bo_c (by rw [zL_le (by omega) (by omega), zL_le (by omega) (by omega)]; omega)) hP hD hS dX1_isHold_9
set_option maxHeartbeats 4000000 in
set_option maxRecDepth 100000 in
theorem c_X1_isSet (l : Launch) (dd : va_G) {ad : Nat → Nat} {cI cL cQ : ClassId}  {P : Nat} {G : Nat} {D : Nat} {F : Nat} {ix : Nat → Int32} {ho : Nat → Int64} {re : Nat → Int32} {wk : Nat → Int64} {tu : Nat → Int64} {wa : Nat → Int64} {nx : Nat → Int64} {b : Int} (hb9 : -2147483648 ≤ b ∧ b < 2147483648) (h1 : 1 ≤ D) (h2 : D ≤ 12) : CTi l yX1_isSet wsX1_isSet ({ frames := 1, cells := 0, slots := 0, locals := 25 } : Room) dd (tysA cI cL cQ) (am_no) [.ref (ad 0), .int (zI (b))] (wM ad cI cL (P) (G) (D) (F) (ix) (ho) (re) (wk) (tu) (wa) (nx)) (fun (r : Int32) (u : Unit) => r = if (0 ≤ b ∧ b < ((2 ^ D : Nat) : Int)) then 1 else 0) (fun (_ : Unit) => (wM ad cI cL (P) (G) (D) (F) (ix) (ho) (re) (wk) (tu) (wa) (nx))) := by
  refine CTz_of (cc := cX1_isSet) (maxL := 2) (by decide +kernel) rfl (Nat.le_of_ble_eq_true rfl) ?_
  intro p e s m args below meth c A Q ls H locs hx hb hts hown hml hP hK hD hS hA hX hl hret
  have hin : ∀ w ∈ wsX10, w ∈ wsX1_isSet := by decide +kernel
  have hl : lv_has ls 2 [(0, .ref (ad 0)), (1, .int (zI (b)))] := hl
  have hp : 2 ^ D ≤ 4096 := Nat.le_trans (Nat.pow_le_pow_right (by decide) h2) (by decide)
  have hp0 : 0 < 2 ^ D := Nat.pow_pos (by decide)
  refine lv_iload_n (pc := 0) hx hb dX1_isSet_0 rfl (lv_at hl 1 rfl) ?_
  refine lv_i2l (pc := 1) (v := zL (b)) hx hb dX1_isSet_1 (zL_zI (by omega) (by omega)) ?_
  refine lv_lconst (pc := 2) (v := zL 0) hx hb dX1_isSet_2 (by decide) ?_
  refine nv_iconst (pc := 3) (k := 1) hx hb dX1_isSet_3 rfl ?_
  refine lv_aload_n (pc := 4) hx hb dX1_isSet_4 rfl (lv_at hl 0 rfl) ?_
  refine va_get (pc := 5) (D := dd) (ci := 1) (v := .int (nI (D))) (C := RX1) (T := TX1) (N := 11) hx hb hts hin hown hK hP 0 rfl rfl 2 (by decide) (hts (.fieldLink RX1 52 "TurningSumsModel" "d" "I") (by decide +kernel)) (fun _ h9 => h9) rfl dX1_isSet_5 ?_
  refine lv_ishl (pc := 8) hx hb dX1_isSet_8 ?_
  refine tq_i (y := nI ((2 ^ D))) (shl_1 h2) ?_
  refine nv_iconst (pc := 9) (k := 1) hx hb dX1_isSet_9 rfl ?_
  refine nv_isub (pc := 10) hx hb (by omega) dX1_isSet_10 ?_
  refine lv_i2l (pc := 11) (v := zL ((((2 ^ D) - 1) : Nat) : Int)) hx hb dX1_isSet_11 (zL_nI (by omega)) ?_
  refine CTi_S0 (pc := 12) am_no_ok (As := [.long (zL (b)), .long (zL 0), .long (zL ((((2 ^ D) - 1) : Nat) : Int))]) (rest := []) ⟨hx, hb, hml, hown, hts⟩ (c_X1_in l dd ) (va_cwS 3 hts gX1_isSet_X1_in rfl rfl rfl (by decide +kernel) ⟨Nat.le_of_ble_eq_true rfl, Nat.le_of_ble_eq_true rfl⟩) hK hP hD hS hA hX rfl hl.1 rfl (Nat.le_of_ble_eq_true rfl) ⟨Nat.zero_le _, Nat.zero_le _⟩ dX1_isSet_12 (fun r u H locs hw hP hD hS => ?_)
  try dsimp only at hw
  subst hw
  exact hret _ _ _ _ _ (()) (by first | rfl | (split <;> rfl)) (bo_c (by rw [zL_le (by omega) (by omega), zL_le (by omega) (by omega)]; omega)) hP hD hS dX1_isSet_15
set_option maxHeartbeats 4000000 in
set_option maxRecDepth 100000 in
theorem c_X1_rem (l : Launch) (dd : va_G) {cI cL cQ : ClassId}   {z : Int} {n : Nat} (hxr : -9223372036854775808 ≤ z ∧ z < 9223372036854775808) (h0 : 0 < n) (hn : n < 2147483648) : CTi l yX1_rem wsX1_rem ({ frames := 0, cells := 0, slots := 0, locals := 0 } : Room) dd (tysA cI cL cQ) (am_no) [.long (zL (z)), .int (nI (n))] [] (fun (r : Int32) (u : Unit) => r = nI (fmN z n)) (fun (_ : Unit) => []) := by
  refine CTi_of (cc := cX1_rem) (maxL := 4) (by decide +kernel) rfl (Nat.le_of_ble_eq_true rfl) ?_
  intro p e s m args below meth c A Q ls H locs hx hb hts hown hml hP hK hD hS hA hX hl hret
  have hl : lv_has ls 4 [(0, .long (zL (z))), (2, .int (nI (n)))] := hl
  refine lv_lload_n (pc := 0) hx hb dX1_rem_0 rfl (lv_at hl 0 rfl) ?_
  refine lv_iload_n (pc := 1) hx hb dX1_rem_1 rfl (lv_at hl 1 rfl) ?_
  refine lv_i2l (pc := 2) (v := zL ((n : Nat) : Int)) hx hb dX1_rem_2 (zL_nI (by omega)) ?_
  refine lv_lrem (pc := 3) hx hb dX1_rem_3 (zL_ne0 h0 hn) ?_
  refine tq_l (y := zL (z.tmod (n : Int))) (zL_rem hxr h0 hn) ?_
  refine lv_l2i (pc := 4) (v := (zL (z.tmod (n : Int))).toInt32) hx hb dX1_rem_4 rfl ?_
  refine tq_i (y := zI ((z.tmod (n : Int)))) (zL_toI _) ?_
  refine lv_istore_n (pc := 5) (lv' := [(3, .int (zI ((z.tmod (n : Int))))), (0, .long (zL (z))), (2, .int (nI (n)))]) hx hb dX1_rem_5 rfl hl (by decide) rfl (fun ls hl => ?_)
  refine lv_iload_n (pc := 6) hx hb dX1_rem_6 rfl (lv_at hl 0 rfl) ?_
  refine zv_if_ge (pc := 7) (tgt := 16) hx hb (by have := fm_rng (x := z) h0; omega) dX1_rem_7 (by decide) (fun h7 => ?_) (fun h7 => ?_)
  · skip
    refine lv_iload_n (pc := 16) hx hb dX1_rem_16 rfl (lv_at hl 0 rfl) ?_
    exact hret _ _ _ _ _ (()) (by show zI (z.tmod (n : Int)) = nI (fmN z n); by_cases q : 0 ≤ z; (rw [nI_zI, fm_pos q h0]); (have w := fm_neg_rng (show z < 0 by omega) h0; have w2 : z.tmod (n : Int) = 0 := (by omega); rw [w2, fm_zero h0 w2]; rfl)) hP hD hS dX1_rem_17
  · skip
    refine lv_iload_n (pc := 10) hx hb dX1_rem_10 rfl (lv_at hl 0 rfl) ?_
    refine lv_iload_n (pc := 11) hx hb dX1_rem_11 rfl (lv_at hl 2 rfl) ?_
    refine zv_2 (pc := 12) (a := ((n : Nat) : Int)) (b := (z.tmod (n : Int))) ((nI_zI _)) (rfl) ?_
    refine zv_iadd (pc := 12) hx hb dX1_rem_12 ?_
    refine lv_goto (pc := 13) (tgt := 17) hx hb dX1_rem_13 (by decide) ?_
    exact hret _ _ _ _ _ (()) (by show zI (z.tmod (n : Int) + ((n : Nat) : Int)) = nI (fmN z n); by_cases q : 0 ≤ z; (rw [fm_pos q h0] at h7; omega); (rw [fm_neg (by omega) h0 (by omega), ← nI_zI])) hP hD hS dX1_rem_17
end
section
/-! PURE 2: the primes, their roots, indexes; the counts of a degree -/
def prT : List Nat := [3, 5, 7, 11, 13, 17, 19, 23, 29, 31, 37, 41, 43, 47, 53, 59, 61, 67, 71, 73, 79, 83, 89, 97, 101, 103, 107, 109, 113, 127, 131, 137, 139, 149, 151, 157, 163, 167, 173, 179, 181, 191, 193, 197, 199]
def okP (P : Nat) : Prop := 3 ≤ P ∧ P ≤ 199 ∧ 2 ≤ rootN P ∧ rootN P < P ∧ ordB P (rootN P) = true ∧ rootN P ^ (P - 1) % P = 1
theorem okP_of : ∀ P, P ∈ prT → okP P := by
  have h : ∀ P, P ∈ prT → (3 ≤ P ∧ P ≤ 199 ∧ 2 ≤ rootN P ∧ rootN P < P ∧ ordB P (rootN P) = true ∧ rootN P ^ (P - 1) % P = 1) := by decide +kernel
  exact h
theorem pr_M : ∀ n, n < 200 → (n ∈ prT ↔ (2 < n ∧ ∀ k, k < n → 2 ≤ k → n % k ≠ 0)) := by decide +kernel
theorem pr_C : ∀ n, n < 200 → (3 ≤ n → (n ∈ prT ↔ ∀ k, k < 15 → (2 ≤ k ∧ k * k ≤ n → n % k ≠ 0))) := by decide +kernel
theorem pw_step (g k P : Nat) : (g ^ k % P) * g % P = g ^ (k + 1) % P := by
  rw [Nat.pow_succ, Nat.mul_mod, Nat.mod_mod, ← Nat.mul_mod]
theorem pw_add (g i j P : Nat) : (g ^ i % P) * (g ^ j % P) % P = g ^ (i + j) % P := by
  rw [Nat.pow_add, ← Nat.mul_mod]
theorem ordB_iff (P g : Nat) : ordB P g = true ↔ ∀ k, k < P - 2 → g ^ (k + 1) % P ≠ 1 := by
  unfold ordB
  rw [List.all_eq_true]
  constructor
  · intro h k hk
    have := h k (List.mem_range.mpr hk)
    simpa using this
  · intro h k hk
    have := h k (List.mem_range.mp hk)
    simpa using this
theorem root_eq {P g : Nat} (h2 : 2 ≤ g) (h3 : g < P) (h : ordB P g = true) (hn : ∀ k, 2 ≤ k → k < g → ordB P k = false) : rootN P = g := by
  have a1 : 2 ≤ rootN P := fndN_ge _ _ _
  rcases Nat.lt_or_ge (rootN P) g with h4 | h4
  · have h5 := hn _ a1 h4
    have h6 := fndN_yes (ordB P) (P - 2) 2 (by unfold rootN at h4; omega)
    unfold rootN at h5
    rw [h6] at h5
    cases h5
  · rcases Nat.lt_or_ge g (rootN P) with h5 | h5
    · have := fndN_no (ordB P) (P - 2) 2 g h2 h5
      rw [h] at this
      cases this
    · omega
theorem root_no {P g : Nat} (h2 : 2 ≤ g) (h3 : g < rootN P) : ∃ k, 1 ≤ k ∧ k ≤ P - 2 ∧ g ^ k % P = 1 := by
  have h := fndN_no (ordB P) (P - 2) 2 g h2 h3
  have h4 : ¬ ∀ k, k < P - 2 → g ^ (k + 1) % P ≠ 1 := fun q => by
    rw [(ordB_iff P g).mpr q] at h
    cases h
  have h5 : ∃ k, k < P - 2 ∧ g ^ (k + 1) % P = 1 := by
    false_or_by_contra
    rename_i h6
    exact h4 (fun k hk q => h6 ⟨k, hk, q⟩)
  obtain ⟨k, h6, h7⟩ := h5
  exact ⟨k + 1, by omega, by omega, h7⟩
theorem pw_one {P k : Nat} (hP : okP P) (h1 : 1 ≤ k) (h2 : k < P - 1) : rootN P ^ k % P ≠ 1 := by
  have := (ordB_iff P (rootN P)).mp hP.2.2.2.2.1 (k - 1) (by omega)
  rwa [show k - 1 + 1 = k by omega] at this
theorem pw_dist {P i j : Nat} (hP : okP P) (h1 : i < j) (h2 : j < P - 1) : rootN P ^ i % P ≠ rootN P ^ j % P := by
  intro h
  have a1 := pw_add (rootN P) i (P - 1 - i) P
  have a2 := pw_add (rootN P) j (P - 1 - i) P
  rw [← h, a1, show i + (P - 1 - i) = P - 1 by omega, hP.2.2.2.2.2] at a2
  have a3 := pw_add (rootN P) (P - 1) (j - i) P
  rw [hP.2.2.2.2.2, show P - 1 + (j - i) = j + (P - 1 - i) by omega, ← a2, Nat.one_mul, Nat.mod_mod] at a3
  exact pw_one hP (show 1 ≤ j - i by omega) (by omega) a3
theorem pw_pos {P k : Nat} (hP : okP P) (h2 : k ≤ P - 1) : 1 ≤ rootN P ^ k % P := by
  rcases Nat.eq_zero_or_pos (rootN P ^ k % P) with h | h
  · have a1 := pw_add (rootN P) k (P - 1 - k) P
    rw [h, Nat.zero_mul, Nat.zero_mod, show k + (P - 1 - k) = P - 1 by omega, hP.2.2.2.2.2] at a1
    cases a1
  · exact h
theorem ix_of {P j : Nat} (hP : okP P) (h : j < P - 1) : ixN P (rootN P ^ j % P) = j := by
  have h1 : ixN P (rootN P ^ j % P) ≤ j := by
    rcases Nat.lt_or_ge j (ixN P (rootN P ^ j % P)) with q | q
    · have := fndN_no (fun k => rootN P ^ k % P == rootN P ^ j % P) (P - 1) 0 j (Nat.zero_le _) q
      simp at this
    · exact q
  have h2 := fndN_yes (fun k => rootN P ^ k % P == rootN P ^ j % P) (P - 1) 0 (by unfold ixN at h1; omega)
  have h3 : rootN P ^ (ixN P (rootN P ^ j % P)) % P = rootN P ^ j % P := by
    unfold ixN
    simpa using h2
  rcases Nat.lt_or_ge (ixN P (rootN P ^ j % P)) j with q | q
  · exact absurd h3 (pw_dist hP q h)
  · omega
/-- pigeons: n places below n, all apart, take each -/
theorem pg_onto : ∀ (n : Nat) (f : Nat → Nat), (∀ i, i < n → f i < n) → (∀ i j, i < j → j < n → f i ≠ f j) → ∀ y, y < n → ∃ i, i < n ∧ f i = y := by
  intro n
  induction n with
  | zero => intro f _ _ y hy; omega
  | succ n ih =>
    intro f h1 h2 y hy
    -- the one that goes to n is taken out
    by_cases h3 : ∃ i, i < n + 1 ∧ f i = n
    · obtain ⟨i, hi, hin⟩ := h3
      by_cases hy2 : y = n
      · exact ⟨i, hi, by omega⟩
      · obtain ⟨k, hk, hk2⟩ := ih (fun k => if k < i then f k else f (k + 1)) (fun k hk => by
            by_cases q : k < i
            · simp only [q, if_true]
              have := h1 k (by omega)
              have := h2 k i q hi
              omega
            · simp only [q, if_false]
              have := h1 (k + 1) (by omega)
              have := h2 i (k + 1) (by omega) (by omega)
              omega) (fun a b hab hb => by
            by_cases q : a < i <;> by_cases q2 : b < i <;> simp only [q, q2, if_true, if_false]
            · exact h2 a b hab (by omega)
            · exact h2 a (b + 1) (by omega) (by omega)
            · omega
            · exact h2 (a + 1) (b + 1) (by omega) (by omega)) y (by omega)
        by_cases q : k < i
        · exact ⟨k, by omega, by simpa only [q, if_true] using hk2⟩
        · exact ⟨k + 1, by omega, by simpa only [q, if_false] using hk2⟩
    · -- none goes to n: then n + 1 places below n
      have h4 : ∀ i, i < n + 1 → f i < n := fun i hi => by
        have := h1 i hi
        have : f i ≠ n := fun q => h3 ⟨i, hi, q⟩
        omega
      obtain ⟨k, hk, hk2⟩ := ih f (fun i hi => h4 i (by omega)) (fun i j a b => h2 i j a (by omega)) (f n) (h4 n (by omega))
      exact absurd hk2 (h2 k n hk (by omega))
theorem pw_onto {P y : Nat} (hP : okP P) (h1 : 1 ≤ y) (h2 : y < P) : ∃ j, j < P - 1 ∧ rootN P ^ j % P = y := by
  obtain ⟨i, hi, h⟩ := pg_onto (P - 1) (fun k => rootN P ^ k % P - 1) (fun i hi => by
      have a := pw_pos hP (show i ≤ P - 1 by omega)
      have b := Nat.mod_lt (rootN P ^ i) (show 0 < P by omega)
      show rootN P ^ i % P - 1 < P - 1
      omega) (fun i j hij hj => by
      have a := pw_pos hP (show i ≤ P - 1 by omega)
      have b := pw_pos hP (show j ≤ P - 1 by omega)
      have d := pw_dist hP hij hj
      show rootN P ^ i % P - 1 ≠ rootN P ^ j % P - 1
      omega) (y - 1) (by omega)
  have a := pw_pos hP (show i ≤ P - 1 by omega)
  have h3 : rootN P ^ i % P - 1 = y - 1 := h
  exact ⟨i, hi, by omega⟩
theorem pw_ix {P y : Nat} (hP : okP P) (h1 : 1 ≤ y) (h2 : y < P) : rootN P ^ ixN P y % P = y ∧ ixN P y < P - 1 := by
  obtain ⟨j, hj, rfl⟩ := pw_onto hP h1 h2
  rw [ix_of hP hj]
  exact ⟨rfl, hj⟩
/-- the indexes, once every power below P - 1 has its own -/
theorem ix_all {P : Nat} {ix : Nat → Int32} (hP : okP P) (h : ∀ j, j < P - 1 → ix (rootN P ^ j % P) = nI j) : ∀ y, 1 ≤ y → y < P → ix y = nI (ixN P y) := by
  intro y h1 h2
  obtain ⟨j, hj, rfl⟩ := pw_onto hP h1 h2
  rw [ix_of hP hj]
  exact h j hj
theorem nI_ne_m1 {j : Nat} (h : j < 2147483648) : ¬ nI j = zI (-1) := by
  rw [nI_zI, zI_eq (by omega) (by omega)]
  omega
/-- how many of 1 .. k have no common divisor above 1 with D -/
def phC (D : Nat) : Nat → Nat
  | 0 => 0
  | k + 1 => phC D k + (if coN D ((k + 1 : Nat) : Int) = true then 1 else 0)
def phN (D : Nat) : Nat := phC D D
theorem ph_rng : ∀ D, D < 13 → 1 ≤ D → (1 ≤ phN D ∧ phN D ≤ 10 ∧ phN D ≤ D) := by decide +kernel
theorem phC_le (D : Nat) : ∀ k, phC D k ≤ k
  | 0 => Nat.le_refl _
  | k + 1 => by
    have := phC_le D k
    unfold phC
    split <;> omega
theorem co_nat {D k : Nat} : coN D (k : Int) = (Nat.gcd k D == 1) := by
  unfold coN
  rw [fmN_nat, ← Nat.gcd_rec, Nat.gcd_comm]
/-- the relation's row of a degree -/
def relM (D i : Nat) : Int := if i = phN D then 1 else if i < phN D then relC ((D - 1) * 10 + i) else 0
theorem rl_1 {f : Nat → Int32} (h : ∀ i, i < 13 → f i = nI 0) : ∀ i, i < 13 → upd (upd f 0 (zI (-1))) (phN 1) (nI 1) i = zI (relM 1 i) := by
  intro i hi
  show (if i = phN 1 then nI 1 else if i = 0 then zI (-1) else f i) = _
  rw [h i hi]
  exact (by decide +kernel : ∀ i, i < 13 → (if i = phN 1 then nI 1 else if i = 0 then zI (-1) else nI 0) = zI (relM 1 i)) i hi
theorem rl_2 {f : Nat → Int32} (h : ∀ i, i < 13 → f i = nI 0) {D : Nat} (hD : D = 2 ∨ D = 4 ∨ D = 8) : ∀ i, i < 13 → upd (upd f 0 (nI 1)) (phN D) (nI 1) i = zI (relM D i) := by
  intro i hi
  show (if i = phN D then nI 1 else if i = 0 then nI 1 else f i) = _
  rw [h i hi]
  rcases hD with rfl | rfl | rfl
  · exact (by decide +kernel : ∀ i, i < 13 → (if i = phN 2 then nI 1 else if i = 0 then nI 1 else nI 0) = zI (relM 2 i)) i hi
  · exact (by decide +kernel : ∀ i, i < 13 → (if i = phN 4 then nI 1 else if i = 0 then nI 1 else nI 0) = zI (relM 4 i)) i hi
  · exact (by decide +kernel : ∀ i, i < 13 → (if i = phN 8 then nI 1 else if i = 0 then nI 1 else nI 0) = zI (relM 8 i)) i hi
theorem rl_3 {f : Nat → Int32} {D : Nat} (h : ∀ i, i < 13 → f i = if i < D then nI 1 else nI 0) (hD : D = 3 ∨ D = 5 ∨ D = 7 ∨ D = 11) : ∀ i, i < 13 → upd f (phN D) (nI 1) i = zI (relM D i) := by
  intro i hi
  show (if i = phN D then nI 1 else f i) = _
  rw [h i hi]
  rcases hD with rfl | rfl | rfl | rfl
  · exact (by decide +kernel : ∀ i, i < 13 → (if i = phN 3 then nI 1 else if i < 3 then nI 1 else nI 0) = zI (relM 3 i)) i hi
  · exact (by decide +kernel : ∀ i, i < 13 → (if i = phN 5 then nI 1 else if i < 5 then nI 1 else nI 0) = zI (relM 5 i)) i hi
  · exact (by decide +kernel : ∀ i, i < 13 → (if i = phN 7 then nI 1 else if i < 7 then nI 1 else nI 0) = zI (relM 7 i)) i hi
  · exact (by decide +kernel : ∀ i, i < 13 → (if i = phN 11 then nI 1 else if i < 11 then nI 1 else nI 0) = zI (relM 11 i)) i hi
theorem rl_9 {f : Nat → Int32} (h : ∀ i, i < 13 → f i = nI 0) : ∀ i, i < 13 → upd (upd (upd f 0 (nI 1)) 3 (nI 1)) (phN 9) (nI 1) i = zI (relM 9 i) := by
  intro i hi
  show (if i = phN 9 then nI 1 else if i = 3 then nI 1 else if i = 0 then nI 1 else f i) = _
  rw [h i hi]
  exact (by decide +kernel : ∀ i, i < 13 → (if i = phN 9 then nI 1 else if i = 3 then nI 1 else if i = 0 then nI 1 else nI 0) = zI (relM 9 i)) i hi
theorem rl_12 {f : Nat → Int32} (h : ∀ i, i < 13 → f i = nI 0) : ∀ i, i < 13 → upd (upd (upd f 0 (nI 1)) 2 (zI (-1))) (phN 12) (nI 1) i = zI (relM 12 i) := by
  intro i hi
  show (if i = phN 12 then nI 1 else if i = 2 then zI (-1) else if i = 0 then nI 1 else f i) = _
  rw [h i hi]
  exact (by decide +kernel : ∀ i, i < 13 → (if i = phN 12 then nI 1 else if i = 2 then zI (-1) else if i = 0 then nI 1 else nI 0) = zI (relM 12 i)) i hi
theorem rl_6 {f : Nat → Int32} {D : Nat} (h : ∀ i, i < 13 → f i = if i < phN D + 1 then (if i % 2 = 0 then nI 1 else zI (-1)) else nI 0) (hD : D = 6 ∨ D = 10) : ∀ i, i < 13 → upd f (phN D) (nI 1) i = zI (relM D i) := by
  intro i hi
  show (if i = phN D then nI 1 else f i) = _
  rw [h i hi]
  rcases hD with rfl | rfl
  · exact (by decide +kernel : ∀ i, i < 13 → (if i = phN 6 then nI 1 else if i < phN 6 + 1 then (if i % 2 = 0 then nI 1 else zI (-1)) else nI 0) = zI (relM 6 i)) i hi
  · exact (by decide +kernel : ∀ i, i < 13 → (if i = phN 10 then nI 1 else if i < phN 10 + 1 then (if i % 2 = 0 then nI 1 else zI (-1)) else nI 0) = zI (relM 10 i)) i hi
theorem rowz {h : Nat → Nat → Int32} {i : Nat} (hz : ∀ a, a < i → ∀ b, b < 10 → h a b = nI 0) : ∀ a, a < i + 1 → ∀ b, b < 10 → va_up h i (fun k => if k < 10 then nI 0 else h i k) a b = nI 0 := by
  intro a ha b hb
  by_cases q : a = i
  · rw [q, va_up_self]
    exact if_pos hb
  · rw [va_up_ne _ _ q]
    exact hz a (by omega) b hb
def okI (P : Nat) (ix pw : Nat → Int32) : Prop := (∀ y, 1 ≤ y → y < P → ix y = nI (ixN P y)) ∧ ∀ k, k < P - 1 → pw k = nI (rootN P ^ k % P)
theorem ixs {P k : Nat} {ix : Nat → Int32} (hP : okP P) (hk : k < P - 1) (h : ∀ j, j < k → ix (rootN P ^ j % P) = nI j) : ∀ j, j < k + 1 → upd ix (rootN P ^ k % P) (nI k) (rootN P ^ j % P) = nI j := by
  intro j hj
  unfold upd
  by_cases q : j = k
  · rw [q, if_pos rfl]
  · rw [if_neg (pw_dist hP (by omega) hk)]
    exact h j (by omega)
theorem pws {P k : Nat} {pw : Nat → Int32} (h : ∀ j, j < k → pw j = nI (rootN P ^ j % P)) : ∀ j, j < k + 1 → upd pw k (nI (rootN P ^ k % P)) j = nI (rootN P ^ j % P) := by
  intro j hj
  unfold upd
  by_cases q : j = k
  · rw [q, if_pos rfl]
  · rw [if_neg q]
    exact h j (by omega)
theorem ph_s1 {D j : Nat} (h : ¬ coN D (((j + 1 : Nat)) : Int) = false) : phC D j + 1 = phC D (j + 1) := by
  show _ = phC D j + _
  rw [if_pos (by simpa using h)]
theorem ph_s0 {D j : Nat} (h : coN D (((j + 1 : Nat)) : Int) = false) : phC D j = phC D (j + 1) := by
  show _ = phC D j + _
  rw [if_neg (by rw [h]; decide)]
  omega
theorem mul_b {P a b : Nat} (hP : P ≤ 199) (ha : a < P) (hb : b < P) : a * b < 2147483648 := by
  have h1 := Nat.mul_le_mul (Nat.le_of_lt ha) (Nat.le_of_lt hb)
  have h2 := Nat.mul_le_mul hP hP
  omega
theorem updc {f : Nat → Int32} {v : Int32} {x : Nat} (h : ∀ k, k < x → f k = v) : ∀ k, k < x + 1 → upd f x v k = v := by
  intro k hk
  unfold upd
  by_cases q : k = x
  · rw [if_pos q]
  · rw [if_neg q]
    exact h k (by omega)
theorem updcL {f : Nat → Int64} {v : Int64} {x : Nat} (h : ∀ k, k < x → f k = v) : ∀ k, k < x + 1 → vp_updL f x v k = v := by
  intro k hk
  unfold vp_updL
  by_cases q : k = x
  · rw [if_pos q]
  · rw [if_neg q]
    exact h k (by omega)
theorem bg_lt {q g k o : Nat} {ix : Nat → Int32} (hq : 3 ≤ q) (hk : k ≤ o) (ho : g ^ o % q = 1) (h1 : 1 ≤ o) (hi : ∀ j, j < k → ix (g ^ j % q) = nI j) (h : ix (g ^ k % q) = zI (-1)) : k < o := by
  rcases Nat.lt_or_ge k o with z | z
  · exact z
  · have e : k = o := by omega
    have h2 := hi 0 (by omega)
    rw [e, ho] at h
    rw [Nat.pow_zero, Nat.mod_eq_of_lt (by omega), h] at h2
    exact absurd h2.symm (nI_ne_m1 (by omega))
theorem bg_hi {q g k : Nat} {ix : Nat → Int32} (hk : k < 2147483648) (hi : ∀ j, j < k → ix (g ^ j % q) = nI j) (h : ix (g ^ k % q) = zI (-1)) : ∀ j, j < k + 1 → upd ix (g ^ k % q) (nI k) (g ^ j % q) = nI j := by
  intro j hj
  unfold upd
  by_cases z : j = k
  · rw [z, if_pos rfl]
  · have h2 := hi j (by omega)
    rw [if_neg (fun w => by rw [w, h] at h2; exact nI_ne_m1 (by omega) h2.symm)]
    exact h2
theorem bg_hn {q g k : Nat} {ix : Nat → Int32} (hn : ∀ y, y < 200 → (∀ j, j < k → g ^ j % q ≠ y) → ix y = zI (-1)) : ∀ y, y < 200 → (∀ j, j < k + 1 → g ^ j % q ≠ y) → upd ix (g ^ k % q) (nI k) y = zI (-1) := by
  intro y hy h
  unfold upd
  rw [if_neg (fun w => h k (by omega) w.symm)]
  exact hn y hy (fun j hj => h j (by omega))
theorem bg_out {q g k : Nat} {ix : Nat → Int32} (hq : okP q) (hg : g = rootN q) (hk : k ≤ q - 1) (hi : ∀ j, j < k → ix (g ^ j % q) = nI j) (hn : ∀ y, y < 200 → (∀ j, j < k → g ^ j % q ≠ y) → ix y = zI (-1)) (h : ¬ ix (g ^ k % q) = zI (-1)) : k = q - 1 ∧ ∀ y, 1 ≤ y → y < q → ix y = nI (ixN q y) := by
  subst hg
  have h1 : k = q - 1 := by
    rcases Nat.lt_or_ge k (q - 1) with z | z
    · have h3 := hq.2.1
      exact absurd (hn _ (Nat.lt_of_lt_of_le (Nat.mod_lt _ (by have := hq.1; omega)) (by omega)) (fun j hj => pw_dist hq hj z)) h
    · omega
  rw [h1] at hi
  exact ⟨h1, ix_all hq hi⟩
theorem bg_or {q g : Nat} (hq : okP q) (h1 : 1 ≤ g) (h : g < rootN q) : ∃ o, 1 ≤ o ∧ o ≤ q - 1 ∧ (g + 1) ^ o % q = 1 ∧ (g + 1 < rootN q → o ≤ q - 2) := by
  have o1 := hq.1
  by_cases z : g + 1 < rootN q
  · obtain ⟨k, a, b, d⟩ := root_no (by omega : 2 ≤ g + 1) z
    exact ⟨k, a, by omega, d, fun _ => b⟩
  · have e : g + 1 = rootN q := by omega
    exact ⟨q - 1, by omega, by omega, by rw [e]; exact hq.2.2.2.2.2, fun w => by omega⟩
theorem ph_g1 {D j : Nat} (h : Nat.gcd (j + 1) D = 1) : phC D j + 1 = phC D (j + 1) := ph_s1 (by rw [co_nat, h]; decide)
theorem ph_g0 {D j : Nat} (h : ¬ Nat.gcd (j + 1) D = 1) : phC D j + 0 = phC D (j + 1) := ph_s0 (by rw [co_nat]; simpa using h)
theorem updi {f : Nat → Int32} {a b : Int32} {k : Nat} (h : ∀ i, i < 13 → f i = if i < k then a else b) : ∀ i, i < 13 → upd f k a i = if i < k + 1 then a else b := by
  intro i hi
  unfold upd
  by_cases q : i = k
  · rw [if_pos q, if_pos (by omega)]
  · rw [if_neg q, h i hi]
    by_cases w : i < k
    · rw [if_pos w, if_pos (show i < k + 1 by omega)]
    · rw [if_neg w, if_neg (show ¬ i < k + 1 by omega)]
theorem updi2 {f : Nat → Int32} {a b d v : Int32} {k : Nat} (hv : v = if k % 2 = 0 then a else d) (h : ∀ i, i < 13 → f i = if i < k then (if i % 2 = 0 then a else d) else b) : ∀ i, i < 13 → upd f k v i = if i < k + 1 then (if i % 2 = 0 then a else d) else b := by
  intro i hi
  unfold upd
  by_cases q : i = k
  · rw [if_pos q, if_pos (by omega), hv, q]
  · rw [if_neg q, h i hi]
    by_cases w : i < k
    · rw [if_pos w, if_pos (show i < k + 1 by omega)]
    · rw [if_neg w, if_neg (show ¬ i < k + 1 by omega)]
end
section
set_option maxHeartbeats 4000000 in
set_option maxRecDepth 100000 in
theorem c_X0_hasAllPowers (l : Launch) (dd : va_G) {ad : Nat → Nat} {cI cL cQ : ClassId} {tR : Nat}  {ix : Nat → Int32} {pw : Nat → Int32} {sg : Nat → Int32} {tm : Nat → Int32} {hd : Nat → Nat → Int32} {wk : Nat → Int64} {rc : Nat → Int64} {lc : Nat → Int64} {P : Nat} {G : Nat} {D : Nat} {F : Nat} {g : Nat} (hP2 : P ≤ 199) (hg : 2 ≤ g ∧ g < P) : CTi l yX0_hasAllPowers wsX0_hasAllPowers ({ frames := 0, cells := 0, slots := 0, locals := 0 } : Room) dd (tysA cI cL cQ) (rX tR) [.ref (ad 0), .int (nI (g))] (wC ad cI cL cQ (ix) (pw) (sg) (tm) (hd) (wk) (rc) (lc) (P) (G) (D) (F)) (fun (r : Int32) (u : Unit) => r = if (ordB P g = true) then 1 else 0) (fun (_ : Unit) => (wC ad cI cL cQ (ix) (pw) (sg) (tm) (hd) (wk) (rc) (lc) (P) (G) (D) (F))) := by
  refine CTz_of (cc := cX0_hasAllPowers) (maxL := 4) (by decide +kernel) rfl (Nat.le_of_ble_eq_true rfl) ?_
  intro p e s m args below meth c A Q ls H locs hx hb hts hown hml hP hK hD hS hA hX hl hret
  have hin : ∀ w ∈ wsX00, w ∈ wsX0_hasAllPowers := by decide +kernel
  have hl : lv_has ls 4 [(0, .ref (ad 0)), (1, .int (nI (g)))] := hl
  refine lv_iload_n (pc := 0) hx hb dX0_hasAllPowers_0 rfl (lv_at hl 1 rfl) ?_
  refine lv_istore_n (pc := 1) (lv' := [(2, .int (nI (g))), (0, .ref (ad 0)), (1, .int (nI (g)))]) hx hb dX0_hasAllPowers_1 rfl hl (by decide) rfl (fun ls hl => ?_)
  refine nv_iconst (pc := 2) (k := 1) hx hb dX0_hasAllPowers_2 rfl ?_
  refine lv_istore_n (pc := 3) (lv' := [(3, .int (nI (1))), (2, .int (nI (g))), (0, .ref (ad 0)), (1, .int (nI (g)))]) hx hb dX0_hasAllPowers_3 rfl hl (by decide) rfl (fun ls hl => ?_)
  have hl : lv_has ls 4 [(3, .int (nI (1))), (2, .int (nI ((g ^ 1 % P)))), (0, .ref (ad 0)), (1, .int (nI (g)))] := by
    have e9 : nI (g) = nI ((g ^ 1 % P)) := by rw [Nat.pow_one, Nat.mod_eq_of_lt hg.2]
    rw [← e9]
    exact hl
  have L4 : ∀ (n9_4 : Nat), ∀ (k : Nat), P - k < n9_4 → (1 ≤ k ∧ k ≤ P - 1) → (∀ j, 1 ≤ j → j < k → g ^ j % P ≠ 1) → ∀ (H : Heap) (locs : List Loc) (ls : Array Slot), va_P dd vwCl (wC ad cI cL cQ (ix) (pw) (sg) (tm) (hd) (wk) (rc) (lc) (P) (G) (D) (F)) H → va_D A (wC ad cI cL cQ (ix) (pw) (sg) (tm) (hd) (wk) (rc) (lc) (P) (G) (D) (F)) → va_S A s.heap H locs → lv_has ls 4 [(0, .ref (ad 0)), (1, .int (nI (g))), (2, .int (nI ((g ^ k % P)))), (3, .int (nI (k)))] → W p l e ({ frames := 0, cells := 0, slots := 0, locals := 0 } : Room) s m args below meth c H locs 0 0 Q (F0 m 4 ls []) := by
    intro n9_4
    induction n9_4 with
    | zero => intro k hm; exact absurd hm (Nat.not_lt_zero _)
    | succ n9_4 ih_4 =>
      intro k hm_4 hk hno H locs ls hP hD hS hl
      refine lv_iload_n (pc := 4) hx hb dX0_hasAllPowers_4 rfl (lv_at hl 3 rfl) ?_
      refine lv_aload_n (pc := 5) hx hb dX0_hasAllPowers_5 rfl (lv_at hl 0 rfl) ?_
      refine va_get (pc := 6) (D := dd) (ci := 0) (v := .int (nI (P))) (C := RX0) (T := TX0) (N := 12) hx hb hts hin hown hK hP 0 rfl rfl 8 (by decide) (hts (.fieldLink RX0 49 "TurningSums" "p" "I") (by decide +kernel)) (fun _ h9 => h9) rfl dX0_hasAllPowers_6 ?_
      refine nv_iconst (pc := 9) (k := 1) hx hb dX0_hasAllPowers_9 rfl ?_
      refine nv_isub (pc := 10) hx hb (by omega) dX0_hasAllPowers_10 ?_
      refine nv_icmp_ge (pc := 11) (tgt := 36) hx hb (a := k) (b := (P - 1)) (by omega) (by omega) dX0_hasAllPowers_11 (by decide) (fun h11 => ?_) (fun h11 => ?_)
      · skip
        refine nv_iconst (pc := 36) (k := 1) hx hb dX0_hasAllPowers_36 rfl ?_
        exact hret _ _ _ _ _ (()) (by first | rfl | (split <;> rfl)) ((if_pos ((ordB_iff P g).mpr (fun j hj => hno (j + 1) (by omega) (by omega)))).symm) hP hD hS dX0_hasAllPowers_37
      · skip
        refine lv_iload_n (pc := 14) hx hb dX0_hasAllPowers_14 rfl (lv_at hl 2 rfl) ?_
        refine nv_iconst (pc := 15) (k := 1) hx hb dX0_hasAllPowers_15 rfl ?_
        refine nv_icmp_ne (pc := 16) (tgt := 21) hx hb (a := (g ^ k % P)) (b := 1) (Nat.lt_trans (Nat.mod_lt _ (by omega)) (by omega)) (by omega) dX0_hasAllPowers_16 (by decide) (fun h16 => ?_) (fun h16 => ?_)
        · skip
          refine lv_iload_n (pc := 21) hx hb dX0_hasAllPowers_21 rfl (lv_at hl 2 rfl) ?_
          refine lv_iload_n (pc := 22) hx hb dX0_hasAllPowers_22 rfl (lv_at hl 1 rfl) ?_
          refine nv_imul (pc := 23) hx hb dX0_hasAllPowers_23 ?_
          refine lv_aload_n (pc := 24) hx hb dX0_hasAllPowers_24 rfl (lv_at hl 0 rfl) ?_
          refine va_get (pc := 25) (D := dd) (ci := 0) (v := .int (nI (P))) (C := RX0) (T := TX0) (N := 12) hx hb hts hin hown hK hP 0 rfl rfl 8 (by decide) (hts (.fieldLink RX0 49 "TurningSums" "p" "I") (by decide +kernel)) (fun _ h9 => h9) rfl dX0_hasAllPowers_25 ?_
          refine nv_irem (pc := 28) hx hb (mul_b hP2 (Nat.mod_lt _ (by omega)) hg.2) (by omega) (by omega) dX0_hasAllPowers_28 ?_
          refine tq_i (y := nI ((g ^ (k + 1) % P))) (by rw [pw_step]) ?_
          refine lv_istore_n (pc := 29) (lv' := [(2, .int (nI ((g ^ (k + 1) % P)))), (0, .ref (ad 0)), (1, .int (nI (g))), (3, .int (nI (k)))]) hx hb dX0_hasAllPowers_29 rfl hl (by decide) rfl (fun ls hl => ?_)
          refine lv_iinc (pc := 30) (v := nI ((k + 1))) (lv' := [(3, .int (nI ((k + 1)))), (2, .int (nI ((g ^ (k + 1) % P)))), (0, .ref (ad 0)), (1, .int (nI (g)))]) hx hb dX0_hasAllPowers_30 hl (k := 3) rfl (nI_inc _) (by decide) rfl (fun ls hl => ?_)
          refine lv_goto (pc := 33) (tgt := 4) hx hb dX0_hasAllPowers_33 (by decide) ?_
          exact ih_4 ((k + 1)) (by omega) (by omega) (fun j a b => (Nat.lt_or_ge j k).elim (fun z => hno j a z) (fun z => by have e : j = k := (by omega); subst e; exact h16)) _ _ _ hP hD hS (lv_sub hl [2, 3, 1, 0] rfl)
        · skip
          refine nv_iconst (pc := 19) (k := 0) hx hb dX0_hasAllPowers_19 rfl ?_
          exact hret _ _ _ _ _ (()) (by first | rfl | (split <;> rfl)) ((if_neg (fun q => by have := (ordB_iff P g).mp q (k - 1) (by omega); rw [show k - 1 + 1 = k by omega] at this; exact this h16)).symm) hP hD hS dX0_hasAllPowers_20
  exact L4 _ (1) (Nat.lt_succ_self _) (by omega) (fun j a b => by omega) _ _ _ hP hD hS (lv_sub hl [2, 3, 1, 0] rfl)
set_option maxHeartbeats 4000000 in
set_option maxRecDepth 100000 in
theorem c_X0_leastRoot (l : Launch) (dd : va_G) {ad : Nat → Nat} {cI cL cQ : ClassId} {tR : Nat}  {ix : Nat → Int32} {pw : Nat → Int32} {sg : Nat → Int32} {tm : Nat → Int32} {hd : Nat → Nat → Int32} {wk : Nat → Int64} {rc : Nat → Int64} {lc : Nat → Int64} {P : Nat} {G : Nat} {D : Nat} {F : Nat}  (hP1 : okP P) : CTi l yX0_leastRoot wsX0_leastRoot ({ frames := 1, cells := 0, slots := 0, locals := 23 } : Room) dd (tysA cI cL cQ) (rX tR) [.ref (ad 0)] (wC ad cI cL cQ (ix) (pw) (sg) (tm) (hd) (wk) (rc) (lc) (P) (G) (D) (F)) (fun (r : Int32) (u : Unit) => r = nI (rootN P)) (fun (_ : Unit) => (wC ad cI cL cQ (ix) (pw) (sg) (tm) (hd) (wk) (rc) (lc) (P) (G) (D) (F))) := by
  refine CTi_of (cc := cX0_leastRoot) (maxL := 2) (by decide +kernel) rfl (Nat.le_of_ble_eq_true rfl) ?_
  intro p e s m args below meth c A Q ls H locs hx hb hts hown hml hP hK hD hS hA hX hl hret
  have hin : ∀ w ∈ wsX00, w ∈ wsX0_leastRoot := by decide +kernel
  have hl : lv_has ls 2 [(0, .ref (ad 0))] := hl
  obtain ⟨o1, o2, o3, o4, o5, o6⟩ := id hP1
  refine nv_iconst (pc := 0) (k := 2) hx hb dX0_leastRoot_0 rfl ?_
  refine lv_istore_n (pc := 1) (lv' := [(1, .int (nI (2))), (0, .ref (ad 0))]) hx hb dX0_leastRoot_1 rfl hl (by decide) rfl (fun ls hl => ?_)
  have L2 : ∀ (n9_2 : Nat), ∀ (g : Nat), P + 1 - g < n9_2 → (2 ≤ g ∧ g ≤ P) → (∀ k, 2 ≤ k → k < g → ordB P k = false) → ∀ (H : Heap) (locs : List Loc) (ls : Array Slot), va_P dd vwCl (wC ad cI cL cQ (ix) (pw) (sg) (tm) (hd) (wk) (rc) (lc) (P) (G) (D) (F)) H → va_D A (wC ad cI cL cQ (ix) (pw) (sg) (tm) (hd) (wk) (rc) (lc) (P) (G) (D) (F)) → va_S A s.heap H locs → lv_has ls 2 [(0, .ref (ad 0)), (1, .int (nI (g)))] → W p l e ({ frames := 1, cells := 0, slots := 0, locals := 23 } : Room) s m args below meth c H locs 0 0 Q (F0 m 2 ls []) := by
    intro n9_2
    induction n9_2 with
    | zero => intro g hm; exact absurd hm (Nat.not_lt_zero _)
    | succ n9_2 ih_2 =>
      intro g hm_2 hq hno H locs ls hP hD hS hl
      refine lv_iload_n (pc := 2) hx hb dX0_leastRoot_2 rfl (lv_at hl 1 rfl) ?_
      refine lv_aload_n (pc := 3) hx hb dX0_leastRoot_3 rfl (lv_at hl 0 rfl) ?_
      refine va_get (pc := 4) (D := dd) (ci := 0) (v := .int (nI (P))) (C := RX0) (T := TX0) (N := 12) hx hb hts hin hown hK hP 0 rfl rfl 8 (by decide) (hts (.fieldLink RX0 49 "TurningSums" "p" "I") (by decide +kernel)) (fun _ h9 => h9) rfl dX0_leastRoot_4 ?_
      refine nv_icmp_ge (pc := 7) (tgt := 26) hx hb (a := g) (b := P) (by omega) (by omega) dX0_leastRoot_7 (by decide) (fun h7 => ?_) (fun h7 => ?_)
      · skip
        have := hno (rootN P) o3 (by omega)
        rw [o5] at this
        cases this
      · skip
        refine lv_aload_n (pc := 10) hx hb dX0_leastRoot_10 rfl (lv_at hl 0 rfl) ?_
        refine lv_iload_n (pc := 11) hx hb dX0_leastRoot_11 rfl (lv_at hl 1 rfl) ?_
        refine CTi_Vw (pc := 12) (rX_ok tR) (As := [.int (nI (g))]) (rest := []) ⟨hx, hb, hml, hown, hts⟩ (c_X0_hasAllPowers l dd (by omega) (by omega)) (cwV 1 hts gX0_leastRoot_X0_hasAllPowers rfl rfl rfl (by decide +kernel) ⟨Nat.le_of_ble_eq_true rfl, Nat.le_of_ble_eq_true rfl⟩) hK hP hD hS hA hX hK 0 0 rfl rfl rfl rfl hl.1 rfl (Nat.le_of_ble_eq_true rfl) ⟨Nat.zero_le _, Nat.zero_le _⟩ dX0_leastRoot_12 (fun r u H locs hw hP hD hS => ?_)
        try dsimp only at hw
        subst hw
        refine bv_if_eq (pc := 15) (tgt := 20) hx hb dX0_leastRoot_15 (by decide) (fun h15 => ?_) (fun h15 => ?_)
        · skip
          refine lv_iinc (pc := 20) (v := nI ((g + 1))) (lv' := [(1, .int (nI ((g + 1)))), (0, .ref (ad 0))]) hx hb dX0_leastRoot_20 hl (k := 1) rfl (nI_inc _) (by decide) rfl (fun ls hl => ?_)
          refine lv_goto (pc := 23) (tgt := 2) hx hb dX0_leastRoot_23 (by decide) ?_
          exact ih_2 ((g + 1)) (by omega) (by omega) (fun k a b => (Nat.lt_or_ge k g).elim (fun z => hno k a z) (fun z => by have e : k = g := (by omega); subst e; exact Bool.eq_false_iff.mpr h15)) _ _ _ hP hD hS (lv_sub hl [1, 0] rfl)
        · skip
          refine lv_iload_n (pc := 18) hx hb dX0_leastRoot_18 rfl (lv_at hl 1 rfl) ?_
          exact hret _ _ _ _ _ (()) (congrArg nI (root_eq hq.1 (by omega) h15 hno).symm) hP hD hS dX0_leastRoot_19
  exact L2 _ (2) (Nat.lt_succ_self _) (by omega) (fun k a b => by omega) _ _ _ hP hD hS (lv_sub hl [1, 0] rfl)
set_option maxHeartbeats 4000000 in
set_option maxRecDepth 100000 in
theorem c_X0_setDegree (l : Launch) (dd : va_G) {ad : Nat → Nat} {cI cL cQ : ClassId} {tR : Nat}  {ix : Nat → Int32} {pw : Nat → Int32} {sg : Nat → Int32} {tm : Nat → Int32} {hd : Nat → Nat → Int32} {wk : Nat → Int64} {rc : Nat → Int64} {lc : Nat → Int64} {P : Nat} {G : Nat} {D : Nat} {F : Nat} {n : Nat} (h1 : 1 ≤ n) (h2 : n ≤ 12) : CTv l yX0_setDegree wsX0_setDegree ({ frames := 1, cells := 0, slots := 0, locals := 23 } : Room) dd (tysA cI cL cQ) (rX tR) [.ref (ad 0), .int (nI (n))] (wC ad cI cL cQ (ix) (pw) (sg) (tm) (hd) (wk) (rc) (lc) (P) (G) (D) (F)) (fun (u : Nat → Nat → Int32) => ∀ a, a < 6 → ∀ b, b < 10 → u a b = nI 0) (fun (u : Nat → Nat → Int32) => (wC ad cI cL cQ (ix) (pw) (sg) (tm) (u) (wk) (rc) (lc) (P) (G) (n) ((phN n)))) := by
  refine CTv_of (cc := cX0_setDegree) (maxL := 3) (by decide +kernel) rfl (Nat.le_of_ble_eq_true rfl) ?_
  intro p e s m args below meth c A Q ls H locs hx hb hts hown hml hP hK hD hS hA hX hl hret
  have hin : ∀ w ∈ wsX00, w ∈ wsX0_setDegree := by decide +kernel
  have hl : lv_has ls 3 [(0, .ref (ad 0)), (1, .int (nI (n)))] := hl
  refine lv_aload_n (pc := 0) hx hb dX0_setDegree_0 rfl (lv_at hl 0 rfl) ?_
  refine lv_iload_n (pc := 1) hx hb dX0_setDegree_1 rfl (lv_at hl 1 rfl) ?_
  refine va_put (pc := 2) (D := dd) (ci := 0) (v := .int (nI (n))) (ty := .int) (C := RX0) (T := TX0) (N := 12) hx hb hts hin tyX0 tyX0_ok nmX0 hown hK hP hD hS 0 rfl rfl 10 (by decide) (hts (.fieldLink RX0 74 "TurningSums" "d" "I") (by decide +kernel)) (fun _ h9 => h9) rfl (by decide +kernel) rfl rfl (Nat.le_of_ble_eq_true rfl) dX0_setDegree_2 (fun H locs hP hD hS => ?_)
  have hP : va_P dd vwCl (wC ad cI cL cQ (ix) (pw) (sg) (tm) (hd) (wk) (rc) (lc) (P) (G) (n) (F)) H := hP
  have hD : va_D A (wC ad cI cL cQ (ix) (pw) (sg) (tm) (hd) (wk) (rc) (lc) (P) (G) (n) (F)) := hD
  refine lv_aload_n (pc := 5) hx hb dX0_setDegree_5 rfl (lv_at hl 0 rfl) ?_
  refine nv_iconst (pc := 6) (k := 0) hx hb dX0_setDegree_6 rfl ?_
  refine va_put (pc := 7) (D := dd) (ci := 0) (v := .int (nI (0))) (ty := .int) (C := RX0) (T := TX0) (N := 12) hx hb hts hin tyX0 tyX0_ok nmX0 hown hK hP hD hS 0 rfl rfl 11 (by decide) (hts (.fieldLink RX0 55 "TurningSums" "phi" "I") (by decide +kernel)) (fun _ h9 => h9) rfl (by decide +kernel) rfl rfl (Nat.le_of_ble_eq_true rfl) dX0_setDegree_7 (fun H locs hP hD hS => ?_)
  have hP : va_P dd vwCl (wC ad cI cL cQ (ix) (pw) (sg) (tm) (hd) (wk) (rc) (lc) (P) (G) (n) (0)) H := hP
  have hD : va_D A (wC ad cI cL cQ (ix) (pw) (sg) (tm) (hd) (wk) (rc) (lc) (P) (G) (n) (0)) := hD
  refine nv_iconst (pc := 10) (k := 1) hx hb dX0_setDegree_10 rfl ?_
  refine lv_istore_n (pc := 11) (lv' := [(2, .int (nI (1))), (0, .ref (ad 0)), (1, .int (nI (n)))]) hx hb dX0_setDegree_11 rfl hl (by decide) rfl (fun ls hl => ?_)
  have L12 : ∀ (n9_12 : Nat), ∀ (j : Nat), n + 1 - j < n9_12 → (j ≤ n) → ∀ (H : Heap) (locs : List Loc) (ls : Array Slot), va_P dd vwCl (wC ad cI cL cQ (ix) (pw) (sg) (tm) (hd) (wk) (rc) (lc) (P) (G) (n) ((phC n j))) H → va_D A (wC ad cI cL cQ (ix) (pw) (sg) (tm) (hd) (wk) (rc) (lc) (P) (G) (n) ((phC n j))) → va_S A s.heap H locs → lv_has ls 3 [(0, .ref (ad 0)), (1, .int (nI (n))), (2, .int (nI ((j + 1))))] → W p l e ({ frames := 1, cells := 0, slots := 0, locals := 23 } : Room) s m args below meth c H locs 0 0 Q (F0 m 12 ls []) := by
    intro n9_12
    induction n9_12 with
    | zero => intro j hm; exact absurd hm (Nat.not_lt_zero _)
    | succ n9_12 ih_12 =>
      intro j hm_12 hj H locs ls hP hD hS hl
      refine lv_iload_n (pc := 12) hx hb dX0_setDegree_12 rfl (lv_at hl 2 rfl) ?_
      refine lv_aload_n (pc := 13) hx hb dX0_setDegree_13 rfl (lv_at hl 0 rfl) ?_
      refine va_get (pc := 14) (D := dd) (ci := 0) (v := .int (nI (n))) (C := RX0) (T := TX0) (N := 12) hx hb hts hin hown hK hP 0 rfl rfl 10 (by decide) (hts (.fieldLink RX0 74 "TurningSums" "d" "I") (by decide +kernel)) (fun _ h9 => h9) rfl dX0_setDegree_14 ?_
      refine nv_icmp_gt (pc := 17) (tgt := 44) hx hb (a := (j + 1)) (b := n) (by omega) (by omega) dX0_setDegree_17 (by decide) (fun h17 => ?_) (fun h17 => ?_)
      · skip
        have e9 : (phC n j) = (phN n) := by rw [show j = n by omega]; rfl
        rw [e9] at hP hD
        have hP : va_P dd vwCl (wC ad cI cL cQ (ix) (pw) (sg) (tm) (hd) (wk) (rc) (lc) (P) (G) (n) ((phN n))) H := hP
        have hD : va_D A (wC ad cI cL cQ (ix) (pw) (sg) (tm) (hd) (wk) (rc) (lc) (P) (G) (n) ((phN n))) := hD
        refine nv_iconst (pc := 44) (k := 0) hx hb dX0_setDegree_44 rfl ?_
        refine lv_istore_n (pc := 45) (lv' := [(2, .int (nI (0))), (0, .ref (ad 0)), (1, .int (nI (n)))]) hx hb dX0_setDegree_45 rfl hl (by decide) rfl (fun ls hl => ?_)
        have L46 : ∀ (n9_46 : Nat), ∀ (i : Nat) (hdv : Nat → Nat → Int32), 7 - i < n9_46 → (i ≤ 6) → (∀ a, a < i → ∀ b, b < 10 → hdv a b = nI 0) → ∀ (H : Heap) (locs : List Loc) (ls : Array Slot), va_P dd vwCl (wC ad cI cL cQ (ix) (pw) (sg) (tm) (hdv) (wk) (rc) (lc) (P) (G) (n) ((phN n))) H → va_D A (wC ad cI cL cQ (ix) (pw) (sg) (tm) (hdv) (wk) (rc) (lc) (P) (G) (n) ((phN n))) → va_S A s.heap H locs → lv_has ls 3 [(0, .ref (ad 0)), (1, .int (nI (n))), (2, .int (nI (i)))] → W p l e ({ frames := 1, cells := 0, slots := 0, locals := 23 } : Room) s m args below meth c H locs 0 0 Q (F0 m 46 ls []) := by
          intro n9_46
          induction n9_46 with
          | zero => intro i hdv hm; exact absurd hm (Nat.not_lt_zero _)
          | succ n9_46 ih_46 =>
            intro i hdv hm_46 hi hz H locs ls hP hD hS hl
            refine lv_iload_n (pc := 46) hx hb dX0_setDegree_46 rfl (lv_at hl 2 rfl) ?_
            refine nv_bipush (pc := 47) (k := 6) hx hb dX0_setDegree_47 rfl (by decide) ?_
            refine nv_icmp_ge (pc := 49) (tgt := 68) hx hb (a := i) (b := 6) (by omega) (by omega) dX0_setDegree_49 (by decide) (fun h49 => ?_) (fun h49 => ?_)
            · skip
              exact hret _ _ _ _ (hdv) (by have e : i = 6 := (by omega); rw [e] at hz; exact hz) hP hD hS dX0_setDegree_68
            · skip
              rcases (show i = 0 ∨ i = 1 ∨ i = 2 ∨ i = 3 ∨ i = 4 ∨ i = 5 by omega) with rfl | rfl | rfl | rfl | rfl | rfl
              · skip
                refine lv_aload_n (pc := 52) hx hb dX0_setDegree_52 rfl (lv_at hl 0 rfl) ?_
                refine va_get (pc := 53) (D := dd) (ci := 0) (v := .ref (ad 5)) (C := RX0) (T := TX0) (N := 12) hx hb hts hin hown hK hP 0 rfl rfl 4 (by decide) (hts (.fieldLink RX0 24 "TurningSums" "holds" "[[I") (by decide +kernel)) (fun _ h9 => h9) rfl dX0_setDegree_53 ?_
                refine lv_iload_n (pc := 56) hx hb dX0_setDegree_56 rfl (lv_at hl 2 rfl) ?_
                refine nv_aald (pc := 57) hx hb hK hP 5 2 rfl rfl (i := 0) (by omega) (by decide) (if_pos (by omega)) dX0_setDegree_57 ?_
                refine nv_iconst (pc := 58) (k := 0) hx hb dX0_setDegree_58 rfl ?_
                refine CTv_Sp (pc := 59) am_no_ok (As := [.ref (ad (9 + (0))), .int (nI (0))]) (rest := []) ⟨hx, hb, hml, hown, hts⟩ (c_J7_fill_53178 l dd (by decide)) (va_cwS 2 hts gX0_setDegree_J7_fill_53178 rfl rfl rfl (by decide +kernel) ⟨Nat.le_of_ble_eq_true rfl, Nat.le_of_ble_eq_true rfl⟩) hK hP hD hS hA trivial [9] [0, 1, 2, 3, 4, 5, 6, 7, 8, 10, 11, 12, 13, 14] rfl rfl rfl rfl (by decide) rfl hl.1 rfl (Nat.le_of_ble_eq_true rfl) ⟨Nat.zero_le _, Nat.zero_le _⟩ dX0_setDegree_59 (fun u H locs hw hP hD hS => ?_)
                try dsimp only at hw
                subst hw
                have hP : va_P dd vwCl (wC ad cI cL cQ (ix) (pw) (sg) (tm) ((va_up (hdv) 0 (fun k => if k < 10 then nI (0) else (hdv) 0 k))) (wk) (rc) (lc) (P) (G) (n) ((phN n))) H := hP.sub [0, 1, 2, 3, 4, 5, 6, 7, 8, 14, 9, 10, 11, 12, 13] rfl
                have hD : va_D A (wC ad cI cL cQ (ix) (pw) (sg) (tm) ((va_up (hdv) 0 (fun k => if k < 10 then nI (0) else (hdv) 0 k))) (wk) (rc) (lc) (P) (G) (n) ((phN n))) := hD.sub [0, 1, 2, 3, 4, 5, 6, 7, 8, 14, 9, 10, 11, 12, 13] (by decide) rfl
                refine lv_iinc (pc := 62) (v := nI ((0 + 1))) (lv' := [(2, .int (nI ((0 + 1)))), (0, .ref (ad 0)), (1, .int (nI (n)))]) hx hb dX0_setDegree_62 hl (k := 2) rfl (nI_inc _) (by decide) rfl (fun ls hl => ?_)
                refine lv_goto (pc := 65) (tgt := 46) hx hb dX0_setDegree_65 (by decide) ?_
                exact ih_46 ((0 + 1)) ((va_up (hdv) 0 (fun k => if k < 10 then nI (0) else (hdv) 0 k))) (by omega) (by omega) (rowz hz) _ _ _ hP hD hS (lv_sub hl [1, 2, 0] rfl)
              · skip
                refine lv_aload_n (pc := 52) hx hb dX0_setDegree_52 rfl (lv_at hl 0 rfl) ?_
                refine va_get (pc := 53) (D := dd) (ci := 0) (v := .ref (ad 5)) (C := RX0) (T := TX0) (N := 12) hx hb hts hin hown hK hP 0 rfl rfl 4 (by decide) (hts (.fieldLink RX0 24 "TurningSums" "holds" "[[I") (by decide +kernel)) (fun _ h9 => h9) rfl dX0_setDegree_53 ?_
                refine lv_iload_n (pc := 56) hx hb dX0_setDegree_56 rfl (lv_at hl 2 rfl) ?_
                refine nv_aald (pc := 57) hx hb hK hP 5 2 rfl rfl (i := 1) (by omega) (by decide) (if_pos (by omega)) dX0_setDegree_57 ?_
                refine nv_iconst (pc := 58) (k := 0) hx hb dX0_setDegree_58 rfl ?_
                refine CTv_Sp (pc := 59) am_no_ok (As := [.ref (ad (9 + (1))), .int (nI (0))]) (rest := []) ⟨hx, hb, hml, hown, hts⟩ (c_J7_fill_53178 l dd (by decide)) (va_cwS 2 hts gX0_setDegree_J7_fill_53178 rfl rfl rfl (by decide +kernel) ⟨Nat.le_of_ble_eq_true rfl, Nat.le_of_ble_eq_true rfl⟩) hK hP hD hS hA trivial [10] [0, 1, 2, 3, 4, 5, 6, 7, 8, 9, 11, 12, 13, 14] rfl rfl rfl rfl (by decide) rfl hl.1 rfl (Nat.le_of_ble_eq_true rfl) ⟨Nat.zero_le _, Nat.zero_le _⟩ dX0_setDegree_59 (fun u H locs hw hP hD hS => ?_)
                try dsimp only at hw
                subst hw
                have hP : va_P dd vwCl (wC ad cI cL cQ (ix) (pw) (sg) (tm) ((va_up (hdv) 1 (fun k => if k < 10 then nI (0) else (hdv) 1 k))) (wk) (rc) (lc) (P) (G) (n) ((phN n))) H := hP.sub [0, 1, 2, 3, 4, 5, 6, 7, 8, 9, 14, 10, 11, 12, 13] rfl
                have hD : va_D A (wC ad cI cL cQ (ix) (pw) (sg) (tm) ((va_up (hdv) 1 (fun k => if k < 10 then nI (0) else (hdv) 1 k))) (wk) (rc) (lc) (P) (G) (n) ((phN n))) := hD.sub [0, 1, 2, 3, 4, 5, 6, 7, 8, 9, 14, 10, 11, 12, 13] (by decide) rfl
                refine lv_iinc (pc := 62) (v := nI ((1 + 1))) (lv' := [(2, .int (nI ((1 + 1)))), (0, .ref (ad 0)), (1, .int (nI (n)))]) hx hb dX0_setDegree_62 hl (k := 2) rfl (nI_inc _) (by decide) rfl (fun ls hl => ?_)
                refine lv_goto (pc := 65) (tgt := 46) hx hb dX0_setDegree_65 (by decide) ?_
                exact ih_46 ((1 + 1)) ((va_up (hdv) 1 (fun k => if k < 10 then nI (0) else (hdv) 1 k))) (by omega) (by omega) (rowz hz) _ _ _ hP hD hS (lv_sub hl [1, 2, 0] rfl)
              · skip
                refine lv_aload_n (pc := 52) hx hb dX0_setDegree_52 rfl (lv_at hl 0 rfl) ?_
                refine va_get (pc := 53) (D := dd) (ci := 0) (v := .ref (ad 5)) (C := RX0) (T := TX0) (N := 12) hx hb hts hin hown hK hP 0 rfl rfl 4 (by decide) (hts (.fieldLink RX0 24 "TurningSums" "holds" "[[I") (by decide +kernel)) (fun _ h9 => h9) rfl dX0_setDegree_53 ?_
                refine lv_iload_n (pc := 56) hx hb dX0_setDegree_56 rfl (lv_at hl 2 rfl) ?_
                refine nv_aald (pc := 57) hx hb hK hP 5 2 rfl rfl (i := 2) (by omega) (by decide) (if_pos (by omega)) dX0_setDegree_57 ?_
                refine nv_iconst (pc := 58) (k := 0) hx hb dX0_setDegree_58 rfl ?_
                refine CTv_Sp (pc := 59) am_no_ok (As := [.ref (ad (9 + (2))), .int (nI (0))]) (rest := []) ⟨hx, hb, hml, hown, hts⟩ (c_J7_fill_53178 l dd (by decide)) (va_cwS 2 hts gX0_setDegree_J7_fill_53178 rfl rfl rfl (by decide +kernel) ⟨Nat.le_of_ble_eq_true rfl, Nat.le_of_ble_eq_true rfl⟩) hK hP hD hS hA trivial [11] [0, 1, 2, 3, 4, 5, 6, 7, 8, 9, 10, 12, 13, 14] rfl rfl rfl rfl (by decide) rfl hl.1 rfl (Nat.le_of_ble_eq_true rfl) ⟨Nat.zero_le _, Nat.zero_le _⟩ dX0_setDegree_59 (fun u H locs hw hP hD hS => ?_)
                try dsimp only at hw
                subst hw
                have hP : va_P dd vwCl (wC ad cI cL cQ (ix) (pw) (sg) (tm) ((va_up (hdv) 2 (fun k => if k < 10 then nI (0) else (hdv) 2 k))) (wk) (rc) (lc) (P) (G) (n) ((phN n))) H := hP.sub [0, 1, 2, 3, 4, 5, 6, 7, 8, 9, 10, 14, 11, 12, 13] rfl
                have hD : va_D A (wC ad cI cL cQ (ix) (pw) (sg) (tm) ((va_up (hdv) 2 (fun k => if k < 10 then nI (0) else (hdv) 2 k))) (wk) (rc) (lc) (P) (G) (n) ((phN n))) := hD.sub [0, 1, 2, 3, 4, 5, 6, 7, 8, 9, 10, 14, 11, 12, 13] (by decide) rfl
                refine lv_iinc (pc := 62) (v := nI ((2 + 1))) (lv' := [(2, .int (nI ((2 + 1)))), (0, .ref (ad 0)), (1, .int (nI (n)))]) hx hb dX0_setDegree_62 hl (k := 2) rfl (nI_inc _) (by decide) rfl (fun ls hl => ?_)
                refine lv_goto (pc := 65) (tgt := 46) hx hb dX0_setDegree_65 (by decide) ?_
                exact ih_46 ((2 + 1)) ((va_up (hdv) 2 (fun k => if k < 10 then nI (0) else (hdv) 2 k))) (by omega) (by omega) (rowz hz) _ _ _ hP hD hS (lv_sub hl [1, 2, 0] rfl)
              · skip
                refine lv_aload_n (pc := 52) hx hb dX0_setDegree_52 rfl (lv_at hl 0 rfl) ?_
                refine va_get (pc := 53) (D := dd) (ci := 0) (v := .ref (ad 5)) (C := RX0) (T := TX0) (N := 12) hx hb hts hin hown hK hP 0 rfl rfl 4 (by decide) (hts (.fieldLink RX0 24 "TurningSums" "holds" "[[I") (by decide +kernel)) (fun _ h9 => h9) rfl dX0_setDegree_53 ?_
                refine lv_iload_n (pc := 56) hx hb dX0_setDegree_56 rfl (lv_at hl 2 rfl) ?_
                refine nv_aald (pc := 57) hx hb hK hP 5 2 rfl rfl (i := 3) (by omega) (by decide) (if_pos (by omega)) dX0_setDegree_57 ?_
                refine nv_iconst (pc := 58) (k := 0) hx hb dX0_setDegree_58 rfl ?_
                refine CTv_Sp (pc := 59) am_no_ok (As := [.ref (ad (9 + (3))), .int (nI (0))]) (rest := []) ⟨hx, hb, hml, hown, hts⟩ (c_J7_fill_53178 l dd (by decide)) (va_cwS 2 hts gX0_setDegree_J7_fill_53178 rfl rfl rfl (by decide +kernel) ⟨Nat.le_of_ble_eq_true rfl, Nat.le_of_ble_eq_true rfl⟩) hK hP hD hS hA trivial [12] [0, 1, 2, 3, 4, 5, 6, 7, 8, 9, 10, 11, 13, 14] rfl rfl rfl rfl (by decide) rfl hl.1 rfl (Nat.le_of_ble_eq_true rfl) ⟨Nat.zero_le _, Nat.zero_le _⟩ dX0_setDegree_59 (fun u H locs hw hP hD hS => ?_)
                try dsimp only at hw
                subst hw
                have hP : va_P dd vwCl (wC ad cI cL cQ (ix) (pw) (sg) (tm) ((va_up (hdv) 3 (fun k => if k < 10 then nI (0) else (hdv) 3 k))) (wk) (rc) (lc) (P) (G) (n) ((phN n))) H := hP.sub [0, 1, 2, 3, 4, 5, 6, 7, 8, 9, 10, 11, 14, 12, 13] rfl
                have hD : va_D A (wC ad cI cL cQ (ix) (pw) (sg) (tm) ((va_up (hdv) 3 (fun k => if k < 10 then nI (0) else (hdv) 3 k))) (wk) (rc) (lc) (P) (G) (n) ((phN n))) := hD.sub [0, 1, 2, 3, 4, 5, 6, 7, 8, 9, 10, 11, 14, 12, 13] (by decide) rfl
                refine lv_iinc (pc := 62) (v := nI ((3 + 1))) (lv' := [(2, .int (nI ((3 + 1)))), (0, .ref (ad 0)), (1, .int (nI (n)))]) hx hb dX0_setDegree_62 hl (k := 2) rfl (nI_inc _) (by decide) rfl (fun ls hl => ?_)
                refine lv_goto (pc := 65) (tgt := 46) hx hb dX0_setDegree_65 (by decide) ?_
                exact ih_46 ((3 + 1)) ((va_up (hdv) 3 (fun k => if k < 10 then nI (0) else (hdv) 3 k))) (by omega) (by omega) (rowz hz) _ _ _ hP hD hS (lv_sub hl [1, 2, 0] rfl)
              · skip
                refine lv_aload_n (pc := 52) hx hb dX0_setDegree_52 rfl (lv_at hl 0 rfl) ?_
                refine va_get (pc := 53) (D := dd) (ci := 0) (v := .ref (ad 5)) (C := RX0) (T := TX0) (N := 12) hx hb hts hin hown hK hP 0 rfl rfl 4 (by decide) (hts (.fieldLink RX0 24 "TurningSums" "holds" "[[I") (by decide +kernel)) (fun _ h9 => h9) rfl dX0_setDegree_53 ?_
                refine lv_iload_n (pc := 56) hx hb dX0_setDegree_56 rfl (lv_at hl 2 rfl) ?_
                refine nv_aald (pc := 57) hx hb hK hP 5 2 rfl rfl (i := 4) (by omega) (by decide) (if_pos (by omega)) dX0_setDegree_57 ?_
                refine nv_iconst (pc := 58) (k := 0) hx hb dX0_setDegree_58 rfl ?_
                refine CTv_Sp (pc := 59) am_no_ok (As := [.ref (ad (9 + (4))), .int (nI (0))]) (rest := []) ⟨hx, hb, hml, hown, hts⟩ (c_J7_fill_53178 l dd (by decide)) (va_cwS 2 hts gX0_setDegree_J7_fill_53178 rfl rfl rfl (by decide +kernel) ⟨Nat.le_of_ble_eq_true rfl, Nat.le_of_ble_eq_true rfl⟩) hK hP hD hS hA trivial [13] [0, 1, 2, 3, 4, 5, 6, 7, 8, 9, 10, 11, 12, 14] rfl rfl rfl rfl (by decide) rfl hl.1 rfl (Nat.le_of_ble_eq_true rfl) ⟨Nat.zero_le _, Nat.zero_le _⟩ dX0_setDegree_59 (fun u H locs hw hP hD hS => ?_)
                try dsimp only at hw
                subst hw
                have hP : va_P dd vwCl (wC ad cI cL cQ (ix) (pw) (sg) (tm) ((va_up (hdv) 4 (fun k => if k < 10 then nI (0) else (hdv) 4 k))) (wk) (rc) (lc) (P) (G) (n) ((phN n))) H := hP.sub [0, 1, 2, 3, 4, 5, 6, 7, 8, 9, 10, 11, 12, 14, 13] rfl
                have hD : va_D A (wC ad cI cL cQ (ix) (pw) (sg) (tm) ((va_up (hdv) 4 (fun k => if k < 10 then nI (0) else (hdv) 4 k))) (wk) (rc) (lc) (P) (G) (n) ((phN n))) := hD.sub [0, 1, 2, 3, 4, 5, 6, 7, 8, 9, 10, 11, 12, 14, 13] (by decide) rfl
                refine lv_iinc (pc := 62) (v := nI ((4 + 1))) (lv' := [(2, .int (nI ((4 + 1)))), (0, .ref (ad 0)), (1, .int (nI (n)))]) hx hb dX0_setDegree_62 hl (k := 2) rfl (nI_inc _) (by decide) rfl (fun ls hl => ?_)
                refine lv_goto (pc := 65) (tgt := 46) hx hb dX0_setDegree_65 (by decide) ?_
                exact ih_46 ((4 + 1)) ((va_up (hdv) 4 (fun k => if k < 10 then nI (0) else (hdv) 4 k))) (by omega) (by omega) (rowz hz) _ _ _ hP hD hS (lv_sub hl [1, 2, 0] rfl)
              · skip
                refine lv_aload_n (pc := 52) hx hb dX0_setDegree_52 rfl (lv_at hl 0 rfl) ?_
                refine va_get (pc := 53) (D := dd) (ci := 0) (v := .ref (ad 5)) (C := RX0) (T := TX0) (N := 12) hx hb hts hin hown hK hP 0 rfl rfl 4 (by decide) (hts (.fieldLink RX0 24 "TurningSums" "holds" "[[I") (by decide +kernel)) (fun _ h9 => h9) rfl dX0_setDegree_53 ?_
                refine lv_iload_n (pc := 56) hx hb dX0_setDegree_56 rfl (lv_at hl 2 rfl) ?_
                refine nv_aald (pc := 57) hx hb hK hP 5 2 rfl rfl (i := 5) (by omega) (by decide) (if_pos (by omega)) dX0_setDegree_57 ?_
                refine nv_iconst (pc := 58) (k := 0) hx hb dX0_setDegree_58 rfl ?_
                refine CTv_Sp (pc := 59) am_no_ok (As := [.ref (ad (9 + (5))), .int (nI (0))]) (rest := []) ⟨hx, hb, hml, hown, hts⟩ (c_J7_fill_53178 l dd (by decide)) (va_cwS 2 hts gX0_setDegree_J7_fill_53178 rfl rfl rfl (by decide +kernel) ⟨Nat.le_of_ble_eq_true rfl, Nat.le_of_ble_eq_true rfl⟩) hK hP hD hS hA trivial [14] [0, 1, 2, 3, 4, 5, 6, 7, 8, 9, 10, 11, 12, 13] rfl rfl rfl rfl (by decide) rfl hl.1 rfl (Nat.le_of_ble_eq_true rfl) ⟨Nat.zero_le _, Nat.zero_le _⟩ dX0_setDegree_59 (fun u H locs hw hP hD hS => ?_)
                try dsimp only at hw
                subst hw
                have hP : va_P dd vwCl (wC ad cI cL cQ (ix) (pw) (sg) (tm) ((va_up (hdv) 5 (fun k => if k < 10 then nI (0) else (hdv) 5 k))) (wk) (rc) (lc) (P) (G) (n) ((phN n))) H := hP.sub [0, 1, 2, 3, 4, 5, 6, 7, 8, 9, 10, 11, 12, 13, 14] rfl
                have hD : va_D A (wC ad cI cL cQ (ix) (pw) (sg) (tm) ((va_up (hdv) 5 (fun k => if k < 10 then nI (0) else (hdv) 5 k))) (wk) (rc) (lc) (P) (G) (n) ((phN n))) := hD.sub [0, 1, 2, 3, 4, 5, 6, 7, 8, 9, 10, 11, 12, 13, 14] (by decide) rfl
                refine lv_iinc (pc := 62) (v := nI ((5 + 1))) (lv' := [(2, .int (nI ((5 + 1)))), (0, .ref (ad 0)), (1, .int (nI (n)))]) hx hb dX0_setDegree_62 hl (k := 2) rfl (nI_inc _) (by decide) rfl (fun ls hl => ?_)
                refine lv_goto (pc := 65) (tgt := 46) hx hb dX0_setDegree_65 (by decide) ?_
                exact ih_46 ((5 + 1)) ((va_up (hdv) 5 (fun k => if k < 10 then nI (0) else (hdv) 5 k))) (by omega) (by omega) (rowz hz) _ _ _ hP hD hS (lv_sub hl [1, 2, 0] rfl)
        exact L46 _ (0) (hd) (Nat.lt_succ_self _) (by omega) (fun a b => by omega) _ _ _ hP hD hS (lv_sub hl [1, 2, 0] rfl)
      · skip
        refine lv_aload_n (pc := 20) hx hb dX0_setDegree_20 rfl (lv_at hl 0 rfl) ?_
        refine lv_iload_n (pc := 21) hx hb dX0_setDegree_21 rfl (lv_at hl 2 rfl) ?_
        refine tq_i (pc := 22) (y := zI ((((j + 1) : Nat) : Int))) ((nI_zI _)) ?_
        refine CTi_Vw (pc := 22) (rX_ok tR) (As := [.int (zI ((((j + 1) : Nat) : Int)))]) (rest := []) ⟨hx, hb, hml, hown, hts⟩ (c_X0_sharesDivisor l dd (by omega) (by omega) (by omega)) (cwV 1 hts gX0_setDegree_X0_sharesDivisor rfl rfl rfl (by decide +kernel) ⟨Nat.le_of_ble_eq_true rfl, Nat.le_of_ble_eq_true rfl⟩) hK hP hD hS hA hX hK 0 0 rfl rfl rfl rfl hl.1 rfl (Nat.le_of_ble_eq_true rfl) ⟨Nat.zero_le _, Nat.zero_le _⟩ dX0_setDegree_22 (fun r u H locs hw hP hD hS => ?_)
        try dsimp only at hw
        subst hw
        refine bv_if_ne (pc := 25) (tgt := 38) hx hb dX0_setDegree_25 (by decide) (fun h25 => ?_) (fun h25 => ?_)
        · skip
          refine lv_iinc (pc := 38) (v := nI (((j + 1) + 1))) (lv' := [(2, .int (nI (((j + 1) + 1)))), (0, .ref (ad 0)), (1, .int (nI (n)))]) hx hb dX0_setDegree_38 hl (k := 2) rfl (nI_inc _) (by decide) rfl (fun ls hl => ?_)
          refine lv_goto (pc := 41) (tgt := 12) hx hb dX0_setDegree_41 (by decide) ?_
          have e9 : (phC n j) = (phC n (j + 1)) := ph_s0 h25
          rw [e9] at hP hD
          have hP : va_P dd vwCl (wC ad cI cL cQ (ix) (pw) (sg) (tm) (hd) (wk) (rc) (lc) (P) (G) (n) ((phC n (j + 1)))) H := hP
          have hD : va_D A (wC ad cI cL cQ (ix) (pw) (sg) (tm) (hd) (wk) (rc) (lc) (P) (G) (n) ((phC n (j + 1)))) := hD
          exact ih_12 (j + 1) (by omega) (by omega) _ _ _ hP hD hS (lv_sub hl [1, 2, 0] rfl)
        · skip
          refine lv_aload_n (pc := 28) hx hb dX0_setDegree_28 rfl (lv_at hl 0 rfl) ?_
          refine lv_dup (pc := 29) hx hb dX0_setDegree_29 rfl ?_
          refine va_get (pc := 30) (D := dd) (ci := 0) (v := .int (nI ((phC n j)))) (C := RX0) (T := TX0) (N := 12) hx hb hts hin hown hK hP 0 rfl rfl 11 (by decide) (hts (.fieldLink RX0 55 "TurningSums" "phi" "I") (by decide +kernel)) (fun _ h9 => h9) rfl dX0_setDegree_30 ?_
          refine nv_iconst (pc := 33) (k := 1) hx hb dX0_setDegree_33 rfl ?_
          refine nv_iadd (pc := 34) hx hb dX0_setDegree_34 ?_
          refine va_put (pc := 35) (D := dd) (ci := 0) (v := .int (nI (((phC n j) + 1)))) (ty := .int) (C := RX0) (T := TX0) (N := 12) hx hb hts hin tyX0 tyX0_ok nmX0 hown hK hP hD hS 0 rfl rfl 11 (by decide) (hts (.fieldLink RX0 55 "TurningSums" "phi" "I") (by decide +kernel)) (fun _ h9 => h9) rfl (by decide +kernel) rfl rfl (Nat.le_of_ble_eq_true rfl) dX0_setDegree_35 (fun H locs hP hD hS => ?_)
          have hP : va_P dd vwCl (wC ad cI cL cQ (ix) (pw) (sg) (tm) (hd) (wk) (rc) (lc) (P) (G) (n) (((phC n j) + 1))) H := hP
          have hD : va_D A (wC ad cI cL cQ (ix) (pw) (sg) (tm) (hd) (wk) (rc) (lc) (P) (G) (n) (((phC n j) + 1))) := hD
          refine lv_iinc (pc := 38) (v := nI (((j + 1) + 1))) (lv' := [(2, .int (nI (((j + 1) + 1)))), (0, .ref (ad 0)), (1, .int (nI (n)))]) hx hb dX0_setDegree_38 hl (k := 2) rfl (nI_inc _) (by decide) rfl (fun ls hl => ?_)
          refine lv_goto (pc := 41) (tgt := 12) hx hb dX0_setDegree_41 (by decide) ?_
          have e9 : ((phC n j) + 1) = (phC n (j + 1)) := ph_s1 h25
          rw [e9] at hP hD
          have hP : va_P dd vwCl (wC ad cI cL cQ (ix) (pw) (sg) (tm) (hd) (wk) (rc) (lc) (P) (G) (n) ((phC n (j + 1)))) H := hP
          have hD : va_D A (wC ad cI cL cQ (ix) (pw) (sg) (tm) (hd) (wk) (rc) (lc) (P) (G) (n) ((phC n (j + 1)))) := hD
          exact ih_12 (j + 1) (by omega) (by omega) _ _ _ hP hD hS (lv_sub hl [1, 2, 0] rfl)
  exact L12 _ (0) (Nat.lt_succ_self _) (by omega) _ _ _ hP hD hS (lv_sub hl [1, 2, 0] rfl)
set_option maxHeartbeats 4000000 in
set_option maxRecDepth 100000 in
theorem c_X0_setPrime (l : Launch) (dd : va_G) {ad : Nat → Nat} {cI cL cQ : ClassId} {tR : Nat}  {ix : Nat → Int32} {pw : Nat → Int32} {sg : Nat → Int32} {tm : Nat → Int32} {hd : Nat → Nat → Int32} {wk : Nat → Int64} {rc : Nat → Int64} {lc : Nat → Int64} {P : Nat} {G : Nat} {D : Nat} {F : Nat} {q : Nat} (hq : okP q) : CTv l yX0_setPrime wsX0_setPrime ({ frames := 2, cells := 0, slots := 0, locals := 45 } : Room) dd (tysA cI cL cQ) (rX tR) [.ref (ad 0), .int (nI (q))] (wC ad cI cL cQ (ix) (pw) (sg) (tm) (hd) (wk) (rc) (lc) (P) (G) (D) (F)) (fun (u : (Nat → Int32) × (Nat → Int32) × (Nat → Nat → Int32)) => okI q u.1 u.2.1 ∧ ∀ a, a < 6 → ∀ b, b < 10 → u.2.2 a b = nI 0) (fun (u : (Nat → Int32) × (Nat → Int32) × (Nat → Nat → Int32)) => (wC ad cI cL cQ (u.1) (u.2.1) (sg) (tm) (u.2.2) (wk) (rc) (lc) (q) ((rootN q)) (2) ((phN 2)))) := by
  refine CTv_of (cc := cX0_setPrime) (maxL := 4) (by decide +kernel) rfl (Nat.le_of_ble_eq_true rfl) ?_
  intro p e s m args below meth c A Q ls H locs hx hb hts hown hml hP hK hD hS hA hX hl hret
  have hin : ∀ w ∈ wsX00, w ∈ wsX0_setPrime := by decide +kernel
  have hl : lv_has ls 4 [(0, .ref (ad 0)), (1, .int (nI (q)))] := hl
  obtain ⟨o1, o2, o3, o4, o5, o6⟩ := id hq
  refine lv_aload_n (pc := 0) hx hb dX0_setPrime_0 rfl (lv_at hl 0 rfl) ?_
  refine lv_iload_n (pc := 1) hx hb dX0_setPrime_1 rfl (lv_at hl 1 rfl) ?_
  refine va_put (pc := 2) (D := dd) (ci := 0) (v := .int (nI (q))) (ty := .int) (C := RX0) (T := TX0) (N := 12) hx hb hts hin tyX0 tyX0_ok nmX0 hown hK hP hD hS 0 rfl rfl 8 (by decide) (hts (.fieldLink RX0 49 "TurningSums" "p" "I") (by decide +kernel)) (fun _ h9 => h9) rfl (by decide +kernel) rfl rfl (Nat.le_of_ble_eq_true rfl) dX0_setPrime_2 (fun H locs hP hD hS => ?_)
  have hP : va_P dd vwCl (wC ad cI cL cQ (ix) (pw) (sg) (tm) (hd) (wk) (rc) (lc) (q) (G) (D) (F)) H := hP
  have hD : va_D A (wC ad cI cL cQ (ix) (pw) (sg) (tm) (hd) (wk) (rc) (lc) (q) (G) (D) (F)) := hD
  refine lv_aload_n (pc := 5) hx hb dX0_setPrime_5 rfl (lv_at hl 0 rfl) ?_
  refine lv_aload_n (pc := 6) hx hb dX0_setPrime_6 rfl (lv_at hl 0 rfl) ?_
  refine CTi_Vw (pc := 7) (rX_ok tR) (As := []) (rest := [.ref (ad 0)]) ⟨hx, hb, hml, hown, hts⟩ (c_X0_leastRoot l dd hq) (cwV 0 hts gX0_setPrime_X0_leastRoot rfl rfl rfl (by decide +kernel) ⟨Nat.le_of_ble_eq_true rfl, Nat.le_of_ble_eq_true rfl⟩) hK hP hD hS hA hX hK 0 0 rfl rfl rfl rfl hl.1 rfl (Nat.le_of_ble_eq_true rfl) ⟨Nat.zero_le _, Nat.zero_le _⟩ dX0_setPrime_7 (fun r u H locs hw hP hD hS => ?_)
  try dsimp only at hw
  subst hw
  refine va_put (pc := 10) (D := dd) (ci := 0) (v := .int (nI ((rootN q)))) (ty := .int) (C := RX0) (T := TX0) (N := 12) hx hb hts hin tyX0 tyX0_ok nmX0 hown hK hP hD hS 0 rfl rfl 9 (by decide) (hts (.fieldLink RX0 45 "TurningSums" "root" "I") (by decide +kernel)) (fun _ h9 => h9) rfl (by decide +kernel) rfl rfl (Nat.le_of_ble_eq_true rfl) dX0_setPrime_10 (fun H locs hP hD hS => ?_)
  have hP : va_P dd vwCl (wC ad cI cL cQ (ix) (pw) (sg) (tm) (hd) (wk) (rc) (lc) (q) ((rootN q)) (D) (F)) H := hP
  have hD : va_D A (wC ad cI cL cQ (ix) (pw) (sg) (tm) (hd) (wk) (rc) (lc) (q) ((rootN q)) (D) (F)) := hD
  refine lv_aload_n (pc := 13) hx hb dX0_setPrime_13 rfl (lv_at hl 0 rfl) ?_
  refine va_get (pc := 14) (D := dd) (ci := 0) (v := .ref (ad 1)) (C := RX0) (T := TX0) (N := 12) hx hb hts hin hown hK hP 0 rfl rfl 0 (by decide) (hts (.fieldLink RX0 9 "TurningSums" "indexOf" "[I") (by decide +kernel)) (fun _ h9 => h9) rfl dX0_setPrime_14 ?_
  refine nv_iconst (pc := 17) (k := 0) hx hb dX0_setPrime_17 rfl ?_
  refine lv_iconst (pc := 18) (v := zI (-1)) hx hb dX0_setPrime_18 rfl ?_
  refine nv_iast (pc := 19) hx hb hK hP hD hS 1 0 rfl rfl (by omega) (by decide) (ws' := (wC ad cI cL cQ ((upd (ix) (0) (zI ((-1))))) (pw) (sg) (tm) (hd) (wk) (rc) (lc) (q) ((rootN q)) (D) (F))) rfl dX0_setPrime_19 (fun H locs hP hD hS => ?_)
  refine nv_iconst (pc := 20) (k := 1) hx hb dX0_setPrime_20 rfl ?_
  refine lv_istore_n (pc := 21) (lv' := [(2, .int (nI (1))), (0, .ref (ad 0)), (1, .int (nI (q)))]) hx hb dX0_setPrime_21 rfl hl (by decide) rfl (fun ls hl => ?_)
  refine nv_iconst (pc := 22) (k := 0) hx hb dX0_setPrime_22 rfl ?_
  refine lv_istore_n (pc := 23) (lv' := [(3, .int (nI (0))), (2, .int (nI (1))), (0, .ref (ad 0)), (1, .int (nI (q)))]) hx hb dX0_setPrime_23 rfl hl (by decide) rfl (fun ls hl => ?_)
  have hl : lv_has ls 4 [(3, .int (nI (0))), (2, .int (nI ((rootN q ^ 0 % q)))), (0, .ref (ad 0)), (1, .int (nI (q)))] := by
    have e9 : nI (1) = nI ((rootN q ^ 0 % q)) := by rw [Nat.pow_zero, Nat.mod_eq_of_lt (by omega)]
    rw [← e9]
    exact hl
  have L24 : ∀ (n9_24 : Nat), ∀ (k : Nat) (ixv : Nat → Int32) (pwv : Nat → Int32), q - k < n9_24 → (k ≤ q - 1) → (∀ j, j < k → ixv (rootN q ^ j % q) = nI j) → (∀ j, j < k → pwv j = nI (rootN q ^ j % q)) → ∀ (H : Heap) (locs : List Loc) (ls : Array Slot), va_P dd vwCl (wC ad cI cL cQ (ixv) (pwv) (sg) (tm) (hd) (wk) (rc) (lc) (q) ((rootN q)) (D) (F)) H → va_D A (wC ad cI cL cQ (ixv) (pwv) (sg) (tm) (hd) (wk) (rc) (lc) (q) ((rootN q)) (D) (F)) → va_S A s.heap H locs → lv_has ls 4 [(0, .ref (ad 0)), (1, .int (nI (q))), (2, .int (nI ((rootN q ^ k % q)))), (3, .int (nI (k)))] → W p l e ({ frames := 2, cells := 0, slots := 0, locals := 45 } : Room) s m args below meth c H locs 0 0 Q (F0 m 24 ls []) := by
    intro n9_24
    induction n9_24 with
    | zero => intro k ixv pwv hm; exact absurd hm (Nat.not_lt_zero _)
    | succ n9_24 ih_24 =>
      intro k ixv pwv hm_24 hk hi hp H locs ls hP hD hS hl
      have hm := Nat.mod_lt (rootN q ^ k) (show 0 < q by omega)
      refine lv_iload_n (pc := 24) hx hb dX0_setPrime_24 rfl (lv_at hl 3 rfl) ?_
      refine lv_aload_n (pc := 25) hx hb dX0_setPrime_25 rfl (lv_at hl 0 rfl) ?_
      refine va_get (pc := 26) (D := dd) (ci := 0) (v := .int (nI (q))) (C := RX0) (T := TX0) (N := 12) hx hb hts hin hown hK hP 0 rfl rfl 8 (by decide) (hts (.fieldLink RX0 49 "TurningSums" "p" "I") (by decide +kernel)) (fun _ h9 => h9) rfl dX0_setPrime_26 ?_
      refine nv_iconst (pc := 29) (k := 1) hx hb dX0_setPrime_29 rfl ?_
      refine nv_isub (pc := 30) hx hb (by omega) dX0_setPrime_30 ?_
      refine nv_icmp_ge (pc := 31) (tgt := 66) hx hb (a := k) (b := (q - 1)) (by omega) (by omega) dX0_setPrime_31 (by decide) (fun h31 => ?_) (fun h31 => ?_)
      · skip
        have e8 : k = q - 1 := (by omega)
        rw [e8] at hi hp
        refine lv_aload_n (pc := 66) hx hb dX0_setPrime_66 rfl (lv_at hl 0 rfl) ?_
        refine nv_iconst (pc := 67) (k := 2) hx hb dX0_setPrime_67 rfl ?_
        refine CTv_Vw (pc := 68) (rX_ok tR) (As := [.int (nI (2))]) (rest := []) ⟨hx, hb, hml, hown, hts⟩ (c_X0_setDegree l dd (by omega) (by omega)) (cwV 1 hts gX0_setPrime_X0_setDegree rfl rfl rfl (by decide +kernel) ⟨Nat.le_of_ble_eq_true rfl, Nat.le_of_ble_eq_true rfl⟩) hK hP hD hS hA hX hK 0 0 rfl rfl rfl rfl hl.1 rfl (Nat.le_of_ble_eq_true rfl) ⟨Nat.zero_le _, Nat.zero_le _⟩ dX0_setPrime_68 (fun u H locs hw hP hD hS => ?_)
        try dsimp only at hw
        obtain ⟨hd68, e9⟩ : ∃ z, z = u := ⟨_, rfl⟩
        rw [← e9] at hw hP hD
        have hw68 := hw
        have hP : va_P dd vwCl (wC ad cI cL cQ (ixv) (pwv) (sg) (tm) (hd68) (wk) (rc) (lc) (q) ((rootN q)) (2) ((phN (2)))) H := hP
        have hD : va_D A (wC ad cI cL cQ (ixv) (pwv) (sg) (tm) (hd68) (wk) (rc) (lc) (q) ((rootN q)) (2) ((phN (2)))) := hD
        exact hret _ _ _ _ (ixv, pwv, hd68) (⟨⟨ix_all hq hi, hp⟩, hw68⟩) hP hD hS dX0_setPrime_71
      · skip
        refine lv_aload_n (pc := 34) hx hb dX0_setPrime_34 rfl (lv_at hl 0 rfl) ?_
        refine va_get (pc := 35) (D := dd) (ci := 0) (v := .ref (ad 2)) (C := RX0) (T := TX0) (N := 12) hx hb hts hin hown hK hP 0 rfl rfl 1 (by decide) (hts (.fieldLink RX0 13 "TurningSums" "powerOf" "[I") (by decide +kernel)) (fun _ h9 => h9) rfl dX0_setPrime_35 ?_
        refine lv_iload_n (pc := 38) hx hb dX0_setPrime_38 rfl (lv_at hl 3 rfl) ?_
        refine lv_iload_n (pc := 39) hx hb dX0_setPrime_39 rfl (lv_at hl 2 rfl) ?_
        refine nv_iast (pc := 40) hx hb hK hP hD hS 2 0 rfl rfl (by omega) (by decide) (ws' := (wC ad cI cL cQ (ixv) ((upd (pwv) (k) (nI ((rootN q ^ k % q))))) (sg) (tm) (hd) (wk) (rc) (lc) (q) ((rootN q)) (D) (F))) rfl dX0_setPrime_40 (fun H locs hP hD hS => ?_)
        refine lv_aload_n (pc := 41) hx hb dX0_setPrime_41 rfl (lv_at hl 0 rfl) ?_
        refine va_get (pc := 42) (D := dd) (ci := 0) (v := .ref (ad 1)) (C := RX0) (T := TX0) (N := 12) hx hb hts hin hown hK hP 0 rfl rfl 0 (by decide) (hts (.fieldLink RX0 9 "TurningSums" "indexOf" "[I") (by decide +kernel)) (fun _ h9 => h9) rfl dX0_setPrime_42 ?_
        refine lv_iload_n (pc := 45) hx hb dX0_setPrime_45 rfl (lv_at hl 2 rfl) ?_
        refine lv_iload_n (pc := 46) hx hb dX0_setPrime_46 rfl (lv_at hl 3 rfl) ?_
        refine nv_iast (pc := 47) hx hb hK hP hD hS 1 0 rfl rfl (by omega) (by decide) (ws' := (wC ad cI cL cQ ((upd (ixv) ((rootN q ^ k % q)) (nI (k)))) ((upd (pwv) (k) (nI ((rootN q ^ k % q))))) (sg) (tm) (hd) (wk) (rc) (lc) (q) ((rootN q)) (D) (F))) rfl dX0_setPrime_47 (fun H locs hP hD hS => ?_)
        refine lv_iload_n (pc := 48) hx hb dX0_setPrime_48 rfl (lv_at hl 2 rfl) ?_
        refine lv_aload_n (pc := 49) hx hb dX0_setPrime_49 rfl (lv_at hl 0 rfl) ?_
        refine va_get (pc := 50) (D := dd) (ci := 0) (v := .int (nI ((rootN q)))) (C := RX0) (T := TX0) (N := 12) hx hb hts hin hown hK hP 0 rfl rfl 9 (by decide) (hts (.fieldLink RX0 45 "TurningSums" "root" "I") (by decide +kernel)) (fun _ h9 => h9) rfl dX0_setPrime_50 ?_
        refine nv_imul (pc := 53) hx hb dX0_setPrime_53 ?_
        refine lv_aload_n (pc := 54) hx hb dX0_setPrime_54 rfl (lv_at hl 0 rfl) ?_
        refine va_get (pc := 55) (D := dd) (ci := 0) (v := .int (nI (q))) (C := RX0) (T := TX0) (N := 12) hx hb hts hin hown hK hP 0 rfl rfl 8 (by decide) (hts (.fieldLink RX0 49 "TurningSums" "p" "I") (by decide +kernel)) (fun _ h9 => h9) rfl dX0_setPrime_55 ?_
        refine nv_irem (pc := 58) hx hb (mul_b o2 hm o4) (by omega) (by omega) dX0_setPrime_58 ?_
        refine tq_i (y := nI ((rootN q ^ (k + 1) % q))) (by rw [pw_step]) ?_
        refine lv_istore_n (pc := 59) (lv' := [(2, .int (nI ((rootN q ^ (k + 1) % q)))), (0, .ref (ad 0)), (1, .int (nI (q))), (3, .int (nI (k)))]) hx hb dX0_setPrime_59 rfl hl (by decide) rfl (fun ls hl => ?_)
        refine lv_iinc (pc := 60) (v := nI ((k + 1))) (lv' := [(3, .int (nI ((k + 1)))), (2, .int (nI ((rootN q ^ (k + 1) % q)))), (0, .ref (ad 0)), (1, .int (nI (q)))]) hx hb dX0_setPrime_60 hl (k := 3) rfl (nI_inc _) (by decide) rfl (fun ls hl => ?_)
        refine lv_goto (pc := 63) (tgt := 24) hx hb dX0_setPrime_63 (by decide) ?_
        exact ih_24 ((k + 1)) ((upd (ixv) ((rootN q ^ k % q)) (nI (k)))) ((upd (pwv) (k) (nI ((rootN q ^ k % q))))) (by omega) (by omega) (ixs hq (by omega) hi) (pws hp) _ _ _ hP hD hS (lv_sub hl [2, 3, 1, 0] rfl)
  exact L24 _ (0) ((upd (ix) (0) (zI ((-1))))) (pw) (Nat.lt_succ_self _) (by omega) (fun j a => by omega) (fun j a => by omega) _ _ _ hP hD hS (lv_sub hl [2, 3, 1, 0] rfl)
set_option maxHeartbeats 4000000 in
set_option maxRecDepth 100000 in
theorem c_X0_isPrime (l : Launch) (dd : va_G) {cI cL cQ : ClassId}   {n : Nat} (h3 : 3 ≤ n) (h199 : n ≤ 199) : CTi l yX0_isPrime wsX0_isPrime ({ frames := 0, cells := 0, slots := 0, locals := 0 } : Room) dd (tysA cI cL cQ) (am_no) [.int (nI (n))] [] (fun (r : Int32) (u : Unit) => r = if (n ∈ prT) then 1 else 0) (fun (_ : Unit) => []) := by
  refine CTz_of (cc := cX0_isPrime) (maxL := 2) (by decide +kernel) rfl (Nat.le_of_ble_eq_true rfl) ?_
  intro p e s m args below meth c A Q ls H locs hx hb hts hown hml hP hK hD hS hA hX hl hret
  have hl : lv_has ls 2 [(0, .int (nI (n)))] := hl
  refine nv_iconst (pc := 0) (k := 2) hx hb dX0_isPrime_0 rfl ?_
  refine lv_istore_n (pc := 1) (lv' := [(1, .int (nI (2))), (0, .int (nI (n)))]) hx hb dX0_isPrime_1 rfl hl (by decide) rfl (fun ls hl => ?_)
  have L2 : ∀ (n9_2 : Nat), ∀ (q : Nat), 17 - q < n9_2 → (2 ≤ q ∧ q ≤ 15) → (∀ k, 2 ≤ k → k < q → n % k ≠ 0) → ∀ (H : Heap) (locs : List Loc) (ls : Array Slot), va_P dd vwCl [] H → va_D A [] → va_S A s.heap H locs → lv_has ls 2 [(0, .int (nI (n))), (1, .int (nI (q)))] → W p l e ({ frames := 0, cells := 0, slots := 0, locals := 0 } : Room) s m args below meth c H locs 0 0 Q (F0 m 2 ls []) := by
    intro n9_2
    induction n9_2 with
    | zero => intro q hm; exact absurd hm (Nat.not_lt_zero _)
    | succ n9_2 ih_2 =>
      intro q hm_2 hq hno H locs ls hP hD hS hl
      have hqq : q * q ≤ 225 := Nat.mul_le_mul hq.2 hq.2
      refine lv_iload_n (pc := 2) hx hb dX0_isPrime_2 rfl (lv_at hl 1 rfl) ?_
      refine lv_iload_n (pc := 3) hx hb dX0_isPrime_3 rfl (lv_at hl 1 rfl) ?_
      refine nv_imul (pc := 4) hx hb dX0_isPrime_4 ?_
      refine lv_iload_n (pc := 5) hx hb dX0_isPrime_5 rfl (lv_at hl 0 rfl) ?_
      refine nv_icmp_gt (pc := 6) (tgt := 23) hx hb (a := (q * q)) (b := n) (by omega) (by omega) dX0_isPrime_6 (by decide) (fun h6 => ?_) (fun h6 => ?_)
      · skip
        refine lv_iload_n (pc := 23) hx hb dX0_isPrime_23 rfl (lv_at hl 0 rfl) ?_
        refine nv_iconst (pc := 24) (k := 2) hx hb dX0_isPrime_24 rfl ?_
        refine nv_icmp_le (pc := 25) (tgt := 32) hx hb (a := n) (b := 2) (by omega) (by omega) dX0_isPrime_25 (by decide) (fun h25 => ?_) (fun h25 => ?_)
        · skip
          omega
        · skip
          refine nv_iconst (pc := 28) (k := 1) hx hb dX0_isPrime_28 rfl ?_
          refine lv_goto (pc := 29) (tgt := 33) hx hb dX0_isPrime_29 (by decide) ?_
          exact hret _ _ _ _ _ (()) (by first | rfl | (split <;> rfl)) ((if_pos ((pr_C n (by omega) h3).mpr (fun k a b => hno k b.1 (by have := Nat.lt_or_ge k q; rcases this with z | z; exact z; exact absurd (Nat.mul_le_mul z z) (by omega))))).symm) hP hD hS dX0_isPrime_33
      · skip
        refine lv_iload_n (pc := 9) hx hb dX0_isPrime_9 rfl (lv_at hl 0 rfl) ?_
        refine lv_iload_n (pc := 10) hx hb dX0_isPrime_10 rfl (lv_at hl 1 rfl) ?_
        refine nv_irem (pc := 11) hx hb (by omega) (by omega) (by omega) dX0_isPrime_11 ?_
        refine nv_if_ne (pc := 12) (tgt := 17) hx hb (a := (n % q)) (Nat.lt_trans (Nat.mod_lt _ (by omega)) (by omega)) dX0_isPrime_12 (by decide) (fun h12 => ?_) (fun h12 => ?_)
        · skip
          refine lv_iinc (pc := 17) (v := nI ((q + 1))) (lv' := [(1, .int (nI ((q + 1)))), (0, .int (nI (n)))]) hx hb dX0_isPrime_17 hl (k := 1) rfl (nI_inc _) (by decide) rfl (fun ls hl => ?_)
          refine lv_goto (pc := 20) (tgt := 2) hx hb dX0_isPrime_20 (by decide) ?_
          exact ih_2 ((q + 1)) (by omega) (by have := Nat.lt_or_ge q 15; rcases this with z | z; omega; exact absurd (Nat.mul_le_mul z z) (by omega)) (fun k a b => (Nat.lt_or_ge k q).elim (fun z => hno k a z) (fun z => by have e : k = q := (by omega); subst e; exact h12)) _ _ _ hP hD hS (lv_sub hl [1, 0] rfl)
        · skip
          refine nv_iconst (pc := 15) (k := 0) hx hb dX0_isPrime_15 rfl ?_
          exact hret _ _ _ _ _ (()) (by first | rfl | (split <;> rfl)) ((if_neg (fun z => (pr_C n (by omega) h3).mp z q (by have := Nat.lt_or_ge q 15; rcases this with z | z; exact z; exact absurd (Nat.mul_le_mul z z) (by omega)) ⟨hq.1, by omega⟩ h12)).symm) hP hD hS dX0_isPrime_16
  exact L2 _ (2) (Nat.lt_succ_self _) (by omega) (fun k a b => by omega) _ _ _ hP hD hS (lv_sub hl [1, 0] rfl)
end
section
set_option maxHeartbeats 4000000 in
set_option maxRecDepth 100000 in
theorem c_X1_common (l : Launch) (dd : va_G) {cI cL cQ : ClassId}   {a : Nat} {b : Nat} (ha : a < 2147483648) (hb9 : b < 2147483648) : CTi l yX1_common wsX1_common ({ frames := 0, cells := 0, slots := 0, locals := 0 } : Room) dd (tysA cI cL cQ) (am_no) [.int (nI (a)), .int (nI (b))] [] (fun (r : Int32) (u : Unit) => r = nI (Nat.gcd a b)) (fun (_ : Unit) => []) := by
  refine CTi_of (cc := cX1_common) (maxL := 5) (by decide +kernel) rfl (Nat.le_of_ble_eq_true rfl) ?_
  intro p e s m args below meth c A Q ls H locs hx hb hts hown hml hP hK hD hS hA hX hl hret
  have hl : lv_has ls 5 [(0, .int (nI (a))), (1, .int (nI (b)))] := hl
  refine lv_iload_n (pc := 0) hx hb dX1_common_0 rfl (lv_at hl 0 rfl) ?_
  refine lv_istore_n (pc := 1) (lv' := [(2, .int (nI (a))), (0, .int (nI (a))), (1, .int (nI (b)))]) hx hb dX1_common_1 rfl hl (by decide) rfl (fun ls hl => ?_)
  refine lv_iload_n (pc := 2) hx hb dX1_common_2 rfl (lv_at hl 2 rfl) ?_
  refine lv_istore_n (pc := 3) (lv' := [(3, .int (nI (b))), (2, .int (nI (a))), (0, .int (nI (a))), (1, .int (nI (b)))]) hx hb dX1_common_3 rfl hl (by decide) rfl (fun ls hl => ?_)
  have L4 : ∀ (n9_4 : Nat), ∀ (u : Nat) (w : Nat), w < n9_4 → (u < 2147483648 ∧ w < 2147483648) → (Nat.gcd u w = Nat.gcd a b) → ∀ (H : Heap) (locs : List Loc) (ls : Array Slot), va_P dd vwCl [] H → va_D A [] → va_S A s.heap H locs → lv_has ls 5 [(0, .int (nI (a))), (1, .int (nI (b))), (2, .int (nI (u))), (3, .int (nI (w)))] → W p l e ({ frames := 0, cells := 0, slots := 0, locals := 0 } : Room) s m args below meth c H locs 0 0 Q (F0 m 4 ls []) := by
    intro n9_4
    induction n9_4 with
    | zero => intro u w hm; exact absurd hm (Nat.not_lt_zero _)
    | succ n9_4 ih_4 =>
      intro u w hm_4 hu hg H locs ls hP hD hS hl
      have hm := fun (z : 0 < w) => Nat.mod_lt u z
      refine lv_iload_n (pc := 4) hx hb dX1_common_4 rfl (lv_at hl 3 rfl) ?_
      refine nv_if_eq (pc := 5) (tgt := 21) hx hb (a := w) (by omega) dX1_common_5 (by decide) (fun h5 => ?_) (fun h5 => ?_)
      · skip
        refine lv_iload_n (pc := 21) hx hb dX1_common_21 rfl (lv_at hl 2 rfl) ?_
        exact hret _ _ _ _ _ (()) (by show nI u = nI (Nat.gcd a b); rw [← hg, h5, Nat.gcd_zero_right]) hP hD hS dX1_common_22
      · skip
        refine lv_iload_n (pc := 8) hx hb dX1_common_8 rfl (lv_at hl 2 rfl) ?_
        refine lv_iload_n (pc := 9) hx hb dX1_common_9 rfl (lv_at hl 3 rfl) ?_
        refine nv_irem (pc := 10) hx hb (by omega) (by omega) (by omega) dX1_common_10 ?_
        refine lv_istore (pc := 11) (lv' := [(4, .int (nI ((u % w)))), (0, .int (nI (a))), (1, .int (nI (b))), (2, .int (nI (u))), (3, .int (nI (w)))]) hx hb dX1_common_11 hl (by decide) rfl (fun ls hl => ?_)
        refine lv_iload_n (pc := 13) hx hb dX1_common_13 rfl (lv_at hl 4 rfl) ?_
        refine lv_istore_n (pc := 14) (lv' := [(2, .int (nI (w))), (4, .int (nI ((u % w)))), (0, .int (nI (a))), (1, .int (nI (b))), (3, .int (nI (w)))]) hx hb dX1_common_14 rfl hl (by decide) rfl (fun ls hl => ?_)
        refine lv_iload (pc := 15) hx hb dX1_common_15 (lv_at hl 1 rfl) ?_
        refine lv_istore_n (pc := 17) (lv' := [(3, .int (nI ((u % w)))), (2, .int (nI (w))), (4, .int (nI ((u % w)))), (0, .int (nI (a))), (1, .int (nI (b)))]) hx hb dX1_common_17 rfl hl (by decide) rfl (fun ls hl => ?_)
        refine lv_goto (pc := 18) (tgt := 4) hx hb dX1_common_18 (by decide) ?_
        exact ih_4 (w) ((u % w)) (by omega) (by omega) (by rw [← hg, Nat.gcd_comm, Nat.gcd_comm u w]; exact (Nat.gcd_rec w u).symm) _ _ _ hP hD hS (lv_sub hl [3, 4, 1, 0] rfl)
  exact L4 _ (a) (b) (Nat.lt_succ_self _) (by omega) (rfl) _ _ _ hP hD hS (lv_sub hl [2, 3, 1, 0] rfl)
set_option maxHeartbeats 4000000 in
set_option maxRecDepth 100000 in
theorem c_X1_classOf (l : Launch) (dd : va_G) {ad : Nat → Nat} {cI cL cQ : ClassId}  {P : Nat} {G : Nat} {D : Nat} {F : Nat} {ix : Nat → Int32} {ho : Nat → Int64} {re : Nat → Int32} {wk : Nat → Int64} {tu : Nat → Int64} {wa : Nat → Int64} {nx : Nat → Int64} {x : Nat} (hG : okT P D ix) (h1 : 1 ≤ x) (h2 : x < P) : CTi l yX1_classOf wsX1_classOf ({ frames := 0, cells := 0, slots := 0, locals := 0 } : Room) dd (tysA cI cL cQ) (am_no) [.ref (ad 0), .int (nI (x))] (wM ad cI cL (P) (G) (D) (F) (ix) (ho) (re) (wk) (tu) (wa) (nx)) (fun (r : Int32) (u : Unit) => r = nI (clsN P D x)) (fun (_ : Unit) => (wM ad cI cL (P) (G) (D) (F) (ix) (ho) (re) (wk) (tu) (wa) (nx))) := by
  refine CTi_of (cc := cX1_classOf) (maxL := 2) (by decide +kernel) rfl (Nat.le_of_ble_eq_true rfl) ?_
  intro p e s m args below meth c A Q ls H locs hx hb hts hown hml hP hK hD hS hA hX hl hret
  have hin : ∀ w ∈ wsX10, w ∈ wsX1_classOf := by decide +kernel
  have hl : lv_has ls 2 [(0, .ref (ad 0)), (1, .int (nI (x)))] := hl
  obtain ⟨g1, g2, g3, g4, hix⟩ := hG
  have hlt := ixN_le P x
  refine lv_aload_n (pc := 0) hx hb dX1_classOf_0 rfl (lv_at hl 0 rfl) ?_
  refine va_get (pc := 1) (D := dd) (ci := 1) (v := .ref (ad 1)) (C := RX1) (T := TX1) (N := 11) hx hb hts hin hown hK hP 0 rfl rfl 4 (by decide) (hts (.fieldLink RX1 7 "TurningSumsModel" "index" "[I") (by decide +kernel)) (fun _ h9 => h9) rfl dX1_classOf_1 ?_
  refine lv_iload_n (pc := 4) hx hb dX1_classOf_4 rfl (lv_at hl 1 rfl) ?_
  refine nv_iald (pc := 5) hx hb hK hP 1 0 rfl rfl (i := x) (by omega) (by decide) (v := nI ((ixN P (x)))) (hix _ (by omega) (by omega)) dX1_classOf_5 ?_
  refine lv_aload_n (pc := 6) hx hb dX1_classOf_6 rfl (lv_at hl 0 rfl) ?_
  refine va_get (pc := 7) (D := dd) (ci := 1) (v := .int (nI (D))) (C := RX1) (T := TX1) (N := 11) hx hb hts hin hown hK hP 0 rfl rfl 2 (by decide) (hts (.fieldLink RX1 52 "TurningSumsModel" "d" "I") (by decide +kernel)) (fun _ h9 => h9) rfl dX1_classOf_7 ?_
  refine nv_irem (pc := 10) hx hb (by omega) (by omega) (by omega) dX1_classOf_10 ?_
  exact hret _ _ _ _ _ (()) (by show nI (ixN P x % D) = nI (clsN P D x); unfold clsN; rw [Nat.mod_eq_of_lt h2]) hP hD hS dX1_classOf_11
set_option maxHeartbeats 4000000 in
set_option maxRecDepth 100000 in
theorem c_X1_isPrime (l : Launch) (dd : va_G) {cI cL cQ : ClassId}   {v : Int} (hr : -2147483648 ≤ v ∧ v < 2147483648) : CTi l yX1_isPrime wsX1_isPrime ({ frames := 0, cells := 0, slots := 0, locals := 0 } : Room) dd (tysA cI cL cQ) (am_no) [.int (zI (v))] [] (fun (r : Int32) (u : Unit) => r = if (v.toNat ∈ prT) then 1 else 0) (fun (_ : Unit) => []) := by
  refine CTz_of (cc := cX1_isPrime) (maxL := 3) (by decide +kernel) rfl (Nat.le_of_ble_eq_true rfl) ?_
  intro p e s m args below meth c A Q ls H locs hx hb hts hown hml hP hK hD hS hA hX hl hret
  have hl : lv_has ls 3 [(0, .int (zI (v)))] := hl
  refine lv_iload_n (pc := 0) hx hb dX1_isPrime_0 rfl (lv_at hl 0 rfl) ?_
  refine nv_iconst (pc := 1) (k := 2) hx hb dX1_isPrime_1 rfl ?_
  refine zv_2 (pc := 2) (a := ((2 : Nat) : Int)) (b := v) ((nI_zI _)) (rfl) ?_
  refine zv_icmp_le (pc := 2) (tgt := 16) hx hb (by omega) (by omega) dX1_isPrime_2 (by decide) (fun h2 => ?_) (fun h2 => ?_)
  · skip
    refine nv_iconst (pc := 16) (k := 0) hx hb dX1_isPrime_16 rfl ?_
    refine lv_istore_n (pc := 17) (lv' := [(1, .int (nI (0))), (0, .int (zI (v)))]) hx hb dX1_isPrime_17 rfl hl (by decide) rfl (fun ls hl => ?_)
    refine nv_iconst (pc := 18) (k := 2) hx hb dX1_isPrime_18 rfl ?_
    refine lv_istore_n (pc := 19) (lv' := [(2, .int (nI (2))), (1, .int (nI (0))), (0, .int (zI (v)))]) hx hb dX1_isPrime_19 rfl hl (by decide) rfl (fun ls hl => ?_)
    have L20 : ∀ (n9_20 : Nat), ∀ (k : Nat) (b : Nat), 202 - k < n9_20 → (2 ≤ k ∧ k ≤ 201) → ((b = 1 ∧ 3 ≤ v ∧ v < 200 ∧ ∀ j, j < k → 2 ≤ j → v.toNat % j ≠ 0) ∨ (b = 0 ∧ v.toNat ∉ prT)) → ∀ (H : Heap) (locs : List Loc) (ls : Array Slot), va_P dd vwCl [] H → va_D A [] → va_S A s.heap H locs → lv_has ls 3 [(0, .int (zI (v))), (1, .int (nI (b))), (2, .int (nI (k)))] → W p l e ({ frames := 0, cells := 0, slots := 0, locals := 0 } : Room) s m args below meth c H locs 0 0 Q (F0 m 20 ls []) := by
      intro n9_20
      induction n9_20 with
      | zero => intro k b hm; exact absurd hm (Nat.not_lt_zero _)
      | succ n9_20 ih_20 =>
        intro k b hm_20 hk hb9 H locs ls hP hD hS hl
        refine lv_iload_n (pc := 20) hx hb dX1_isPrime_20 rfl (lv_at hl 2 rfl) ?_
        refine lv_iload_n (pc := 21) hx hb dX1_isPrime_21 rfl (lv_at hl 0 rfl) ?_
        refine zv_2 (pc := 22) (a := v) (b := ((k : Nat) : Int)) (rfl) ((nI_zI _)) ?_
        refine zv_icmp_ge (pc := 22) (tgt := 47) hx hb (by omega) (by omega) dX1_isPrime_22 (by decide) (fun h22 => ?_) (fun h22 => ?_)
        · skip
          refine lv_iload_n (pc := 47) hx hb dX1_isPrime_47 rfl (lv_at hl 1 rfl) ?_
          rcases hb9 with ⟨rfl, q9⟩ | ⟨rfl, q9⟩
          · skip
            exact hret _ _ _ _ _ (()) (by first | rfl | (split <;> rfl)) (by first | exact (if_neg q9).symm | exact (if_pos ((pr_M v.toNat (by omega)).mpr ⟨by omega, fun j a b => q9.2.2 j (by omega) b⟩)).symm | omega) hP hD hS dX1_isPrime_48
          · skip
            exact hret _ _ _ _ _ (()) (by first | rfl | (split <;> rfl)) (by first | exact (if_neg q9).symm | exact (if_pos ((pr_M v.toNat (by omega)).mpr ⟨by omega, fun j a b => q9.2.2 j (by omega) b⟩)).symm | omega) hP hD hS dX1_isPrime_48
        · skip
          refine lv_iload_n (pc := 25) hx hb dX1_isPrime_25 rfl (lv_at hl 1 rfl) ?_
          refine nv_if_eq (pc := 26) (tgt := 47) hx hb (a := b) (by omega) dX1_isPrime_26 (by decide) (fun h26 => ?_) (fun h26 => ?_)
          · skip
            refine lv_iload_n (pc := 47) hx hb dX1_isPrime_47 rfl (lv_at hl 1 rfl) ?_
            rcases hb9 with ⟨rfl, q9⟩ | ⟨rfl, q9⟩
            · skip
              exact hret _ _ _ _ _ (()) (by first | rfl | (split <;> rfl)) (by first | exact (if_neg q9).symm | exact (if_pos ((pr_M v.toNat (by omega)).mpr ⟨by omega, fun j a b => q9.2.2 j (by omega) b⟩)).symm | omega) hP hD hS dX1_isPrime_48
            · skip
              exact hret _ _ _ _ _ (()) (by first | rfl | (split <;> rfl)) (by first | exact (if_neg q9).symm | exact (if_pos ((pr_M v.toNat (by omega)).mpr ⟨by omega, fun j a b => q9.2.2 j (by omega) b⟩)).symm | omega) hP hD hS dX1_isPrime_48
          · skip
            replace hb9 : 3 ≤ v ∧ v < 200 ∧ ∀ j, j < k → 2 ≤ j → v.toNat % j ≠ 0 := by
              rcases hb9 with q | q
              · exact q.2
              · omega
            refine lv_iload_n (pc := 29) hx hb dX1_isPrime_29 rfl (lv_at hl 0 rfl) ?_
            refine tq_i (y := nI (v.toNat)) (zI_toNat (by omega)) ?_
            refine lv_iload_n (pc := 30) hx hb dX1_isPrime_30 rfl (lv_at hl 2 rfl) ?_
            refine nv_irem (pc := 31) hx hb (by omega) (by omega) (by omega) dX1_isPrime_31 ?_
            refine nv_if_eq (pc := 32) (tgt := 39) hx hb (a := (v.toNat % k)) (Nat.lt_trans (Nat.mod_lt _ (by omega)) (by omega)) dX1_isPrime_32 (by decide) (fun h32 => ?_) (fun h32 => ?_)
            · skip
              refine nv_iconst (pc := 39) (k := 0) hx hb dX1_isPrime_39 rfl ?_
              refine lv_istore_n (pc := 40) (lv' := [(1, .int (nI (0))), (0, .int (zI (v))), (2, .int (nI (k)))]) hx hb dX1_isPrime_40 rfl hl (by decide) rfl (fun ls hl => ?_)
              refine lv_iinc (pc := 41) (v := nI ((k + 1))) (lv' := [(2, .int (nI ((k + 1)))), (1, .int (nI (0))), (0, .int (zI (v)))]) hx hb dX1_isPrime_41 hl (k := 2) rfl (nI_inc _) (by decide) rfl (fun ls hl => ?_)
              refine lv_goto (pc := 44) (tgt := 20) hx hb dX1_isPrime_44 (by decide) ?_
              exact ih_20 ((k + 1)) (0) (by omega) (by omega) (Or.inr ⟨rfl, fun z => ((pr_M v.toNat (by omega)).mp z).2 k (by omega) hk.1 h32⟩) _ _ _ hP hD hS (lv_sub hl [2, 1, 0] rfl)
            · skip
              refine nv_iconst (pc := 35) (k := 1) hx hb dX1_isPrime_35 rfl ?_
              refine lv_goto (pc := 36) (tgt := 40) hx hb dX1_isPrime_36 (by decide) ?_
              refine lv_istore_n (pc := 40) (lv' := [(1, .int (nI (1))), (0, .int (zI (v))), (2, .int (nI (k)))]) hx hb dX1_isPrime_40 rfl hl (by decide) rfl (fun ls hl => ?_)
              refine lv_iinc (pc := 41) (v := nI ((k + 1))) (lv' := [(2, .int (nI ((k + 1)))), (1, .int (nI (1))), (0, .int (zI (v)))]) hx hb dX1_isPrime_41 hl (k := 2) rfl (nI_inc _) (by decide) rfl (fun ls hl => ?_)
              refine lv_goto (pc := 44) (tgt := 20) hx hb dX1_isPrime_44 (by decide) ?_
              exact ih_20 ((k + 1)) (1) (by omega) (by omega) (Or.inl ⟨rfl, hb9.1, hb9.2.1, fun j a b => (Nat.lt_or_ge j k).elim (fun z => hb9.2.2 j z b) (fun z => by have e : j = k := (by omega); subst e; exact h32)⟩) _ _ _ hP hD hS (lv_sub hl [2, 1, 0] rfl)
    exact L20 _ (2) (0) (Nat.lt_succ_self _) (by omega) (Or.inr ⟨rfl, fun z => by have := (pr_M v.toNat (by omega)).mp z; omega⟩) _ _ _ hP hD hS (lv_sub hl [2, 1, 0] rfl)
  · skip
    refine lv_iload_n (pc := 5) hx hb dX1_isPrime_5 rfl (lv_at hl 0 rfl) ?_
    refine nv_sipush (pc := 6) (k := 200) hx hb dX1_isPrime_6 rfl (by decide) ?_
    refine zv_2 (pc := 9) (a := ((200 : Nat) : Int)) (b := v) ((nI_zI _)) (rfl) ?_
    refine zv_icmp_ge (pc := 9) (tgt := 16) hx hb (by omega) (by omega) dX1_isPrime_9 (by decide) (fun h9 => ?_) (fun h9 => ?_)
    · skip
      refine nv_iconst (pc := 16) (k := 0) hx hb dX1_isPrime_16 rfl ?_
      refine lv_istore_n (pc := 17) (lv' := [(1, .int (nI (0))), (0, .int (zI (v)))]) hx hb dX1_isPrime_17 rfl hl (by decide) rfl (fun ls hl => ?_)
      refine nv_iconst (pc := 18) (k := 2) hx hb dX1_isPrime_18 rfl ?_
      refine lv_istore_n (pc := 19) (lv' := [(2, .int (nI (2))), (1, .int (nI (0))), (0, .int (zI (v)))]) hx hb dX1_isPrime_19 rfl hl (by decide) rfl (fun ls hl => ?_)
      have L20 : ∀ (n9_20 : Nat), ∀ (k : Nat) (b : Nat), 202 - k < n9_20 → (2 ≤ k ∧ k ≤ 201) → ((b = 1 ∧ 3 ≤ v ∧ v < 200 ∧ ∀ j, j < k → 2 ≤ j → v.toNat % j ≠ 0) ∨ (b = 0 ∧ v.toNat ∉ prT)) → ∀ (H : Heap) (locs : List Loc) (ls : Array Slot), va_P dd vwCl [] H → va_D A [] → va_S A s.heap H locs → lv_has ls 3 [(0, .int (zI (v))), (1, .int (nI (b))), (2, .int (nI (k)))] → W p l e ({ frames := 0, cells := 0, slots := 0, locals := 0 } : Room) s m args below meth c H locs 0 0 Q (F0 m 20 ls []) := by
        intro n9_20
        induction n9_20 with
        | zero => intro k b hm; exact absurd hm (Nat.not_lt_zero _)
        | succ n9_20 ih_20 =>
          intro k b hm_20 hk hb9 H locs ls hP hD hS hl
          refine lv_iload_n (pc := 20) hx hb dX1_isPrime_20 rfl (lv_at hl 2 rfl) ?_
          refine lv_iload_n (pc := 21) hx hb dX1_isPrime_21 rfl (lv_at hl 0 rfl) ?_
          refine zv_2 (pc := 22) (a := v) (b := ((k : Nat) : Int)) (rfl) ((nI_zI _)) ?_
          refine zv_icmp_ge (pc := 22) (tgt := 47) hx hb (by omega) (by omega) dX1_isPrime_22 (by decide) (fun h22 => ?_) (fun h22 => ?_)
          · skip
            refine lv_iload_n (pc := 47) hx hb dX1_isPrime_47 rfl (lv_at hl 1 rfl) ?_
            rcases hb9 with ⟨rfl, q9⟩ | ⟨rfl, q9⟩
            · skip
              exact hret _ _ _ _ _ (()) (by first | rfl | (split <;> rfl)) (by first | exact (if_neg q9).symm | exact (if_pos ((pr_M v.toNat (by omega)).mpr ⟨by omega, fun j a b => q9.2.2 j (by omega) b⟩)).symm | omega) hP hD hS dX1_isPrime_48
            · skip
              exact hret _ _ _ _ _ (()) (by first | rfl | (split <;> rfl)) (by first | exact (if_neg q9).symm | exact (if_pos ((pr_M v.toNat (by omega)).mpr ⟨by omega, fun j a b => q9.2.2 j (by omega) b⟩)).symm | omega) hP hD hS dX1_isPrime_48
          · skip
            refine lv_iload_n (pc := 25) hx hb dX1_isPrime_25 rfl (lv_at hl 1 rfl) ?_
            refine nv_if_eq (pc := 26) (tgt := 47) hx hb (a := b) (by omega) dX1_isPrime_26 (by decide) (fun h26 => ?_) (fun h26 => ?_)
            · skip
              refine lv_iload_n (pc := 47) hx hb dX1_isPrime_47 rfl (lv_at hl 1 rfl) ?_
              rcases hb9 with ⟨rfl, q9⟩ | ⟨rfl, q9⟩
              · skip
                exact hret _ _ _ _ _ (()) (by first | rfl | (split <;> rfl)) (by first | exact (if_neg q9).symm | exact (if_pos ((pr_M v.toNat (by omega)).mpr ⟨by omega, fun j a b => q9.2.2 j (by omega) b⟩)).symm | omega) hP hD hS dX1_isPrime_48
              · skip
                exact hret _ _ _ _ _ (()) (by first | rfl | (split <;> rfl)) (by first | exact (if_neg q9).symm | exact (if_pos ((pr_M v.toNat (by omega)).mpr ⟨by omega, fun j a b => q9.2.2 j (by omega) b⟩)).symm | omega) hP hD hS dX1_isPrime_48
            · skip
              replace hb9 : 3 ≤ v ∧ v < 200 ∧ ∀ j, j < k → 2 ≤ j → v.toNat % j ≠ 0 := by
                rcases hb9 with q | q
                · exact q.2
                · omega
              refine lv_iload_n (pc := 29) hx hb dX1_isPrime_29 rfl (lv_at hl 0 rfl) ?_
              refine tq_i (y := nI (v.toNat)) (zI_toNat (by omega)) ?_
              refine lv_iload_n (pc := 30) hx hb dX1_isPrime_30 rfl (lv_at hl 2 rfl) ?_
              refine nv_irem (pc := 31) hx hb (by omega) (by omega) (by omega) dX1_isPrime_31 ?_
              refine nv_if_eq (pc := 32) (tgt := 39) hx hb (a := (v.toNat % k)) (Nat.lt_trans (Nat.mod_lt _ (by omega)) (by omega)) dX1_isPrime_32 (by decide) (fun h32 => ?_) (fun h32 => ?_)
              · skip
                refine nv_iconst (pc := 39) (k := 0) hx hb dX1_isPrime_39 rfl ?_
                refine lv_istore_n (pc := 40) (lv' := [(1, .int (nI (0))), (0, .int (zI (v))), (2, .int (nI (k)))]) hx hb dX1_isPrime_40 rfl hl (by decide) rfl (fun ls hl => ?_)
                refine lv_iinc (pc := 41) (v := nI ((k + 1))) (lv' := [(2, .int (nI ((k + 1)))), (1, .int (nI (0))), (0, .int (zI (v)))]) hx hb dX1_isPrime_41 hl (k := 2) rfl (nI_inc _) (by decide) rfl (fun ls hl => ?_)
                refine lv_goto (pc := 44) (tgt := 20) hx hb dX1_isPrime_44 (by decide) ?_
                exact ih_20 ((k + 1)) (0) (by omega) (by omega) (Or.inr ⟨rfl, fun z => ((pr_M v.toNat (by omega)).mp z).2 k (by omega) hk.1 h32⟩) _ _ _ hP hD hS (lv_sub hl [2, 1, 0] rfl)
              · skip
                refine nv_iconst (pc := 35) (k := 1) hx hb dX1_isPrime_35 rfl ?_
                refine lv_goto (pc := 36) (tgt := 40) hx hb dX1_isPrime_36 (by decide) ?_
                refine lv_istore_n (pc := 40) (lv' := [(1, .int (nI (1))), (0, .int (zI (v))), (2, .int (nI (k)))]) hx hb dX1_isPrime_40 rfl hl (by decide) rfl (fun ls hl => ?_)
                refine lv_iinc (pc := 41) (v := nI ((k + 1))) (lv' := [(2, .int (nI ((k + 1)))), (1, .int (nI (1))), (0, .int (zI (v)))]) hx hb dX1_isPrime_41 hl (k := 2) rfl (nI_inc _) (by decide) rfl (fun ls hl => ?_)
                refine lv_goto (pc := 44) (tgt := 20) hx hb dX1_isPrime_44 (by decide) ?_
                exact ih_20 ((k + 1)) (1) (by omega) (by omega) (Or.inl ⟨rfl, hb9.1, hb9.2.1, fun j a b => (Nat.lt_or_ge j k).elim (fun z => hb9.2.2 j z b) (fun z => by have e : j = k := (by omega); subst e; exact h32)⟩) _ _ _ hP hD hS (lv_sub hl [2, 1, 0] rfl)
      exact L20 _ (2) (0) (Nat.lt_succ_self _) (by omega) (Or.inr ⟨rfl, fun z => by have := okP_of _ z; unfold okP at this; omega⟩) _ _ _ hP hD hS (lv_sub hl [2, 1, 0] rfl)
    · skip
      refine nv_iconst (pc := 12) (k := 1) hx hb dX1_isPrime_12 rfl ?_
      refine lv_goto (pc := 13) (tgt := 17) hx hb dX1_isPrime_13 (by decide) ?_
      refine lv_istore_n (pc := 17) (lv' := [(1, .int (nI (1))), (0, .int (zI (v)))]) hx hb dX1_isPrime_17 rfl hl (by decide) rfl (fun ls hl => ?_)
      refine nv_iconst (pc := 18) (k := 2) hx hb dX1_isPrime_18 rfl ?_
      refine lv_istore_n (pc := 19) (lv' := [(2, .int (nI (2))), (1, .int (nI (1))), (0, .int (zI (v)))]) hx hb dX1_isPrime_19 rfl hl (by decide) rfl (fun ls hl => ?_)
      have L20 : ∀ (n9_20 : Nat), ∀ (k : Nat) (b : Nat), 202 - k < n9_20 → (2 ≤ k ∧ k ≤ 201) → ((b = 1 ∧ 3 ≤ v ∧ v < 200 ∧ ∀ j, j < k → 2 ≤ j → v.toNat % j ≠ 0) ∨ (b = 0 ∧ v.toNat ∉ prT)) → ∀ (H : Heap) (locs : List Loc) (ls : Array Slot), va_P dd vwCl [] H → va_D A [] → va_S A s.heap H locs → lv_has ls 3 [(0, .int (zI (v))), (1, .int (nI (b))), (2, .int (nI (k)))] → W p l e ({ frames := 0, cells := 0, slots := 0, locals := 0 } : Room) s m args below meth c H locs 0 0 Q (F0 m 20 ls []) := by
        intro n9_20
        induction n9_20 with
        | zero => intro k b hm; exact absurd hm (Nat.not_lt_zero _)
        | succ n9_20 ih_20 =>
          intro k b hm_20 hk hb9 H locs ls hP hD hS hl
          refine lv_iload_n (pc := 20) hx hb dX1_isPrime_20 rfl (lv_at hl 2 rfl) ?_
          refine lv_iload_n (pc := 21) hx hb dX1_isPrime_21 rfl (lv_at hl 0 rfl) ?_
          refine zv_2 (pc := 22) (a := v) (b := ((k : Nat) : Int)) (rfl) ((nI_zI _)) ?_
          refine zv_icmp_ge (pc := 22) (tgt := 47) hx hb (by omega) (by omega) dX1_isPrime_22 (by decide) (fun h22 => ?_) (fun h22 => ?_)
          · skip
            refine lv_iload_n (pc := 47) hx hb dX1_isPrime_47 rfl (lv_at hl 1 rfl) ?_
            rcases hb9 with ⟨rfl, q9⟩ | ⟨rfl, q9⟩
            · skip
              exact hret _ _ _ _ _ (()) (by first | rfl | (split <;> rfl)) (by first | exact (if_neg q9).symm | exact (if_pos ((pr_M v.toNat (by omega)).mpr ⟨by omega, fun j a b => q9.2.2 j (by omega) b⟩)).symm | omega) hP hD hS dX1_isPrime_48
            · skip
              exact hret _ _ _ _ _ (()) (by first | rfl | (split <;> rfl)) (by first | exact (if_neg q9).symm | exact (if_pos ((pr_M v.toNat (by omega)).mpr ⟨by omega, fun j a b => q9.2.2 j (by omega) b⟩)).symm | omega) hP hD hS dX1_isPrime_48
          · skip
            refine lv_iload_n (pc := 25) hx hb dX1_isPrime_25 rfl (lv_at hl 1 rfl) ?_
            refine nv_if_eq (pc := 26) (tgt := 47) hx hb (a := b) (by omega) dX1_isPrime_26 (by decide) (fun h26 => ?_) (fun h26 => ?_)
            · skip
              refine lv_iload_n (pc := 47) hx hb dX1_isPrime_47 rfl (lv_at hl 1 rfl) ?_
              rcases hb9 with ⟨rfl, q9⟩ | ⟨rfl, q9⟩
              · skip
                exact hret _ _ _ _ _ (()) (by first | rfl | (split <;> rfl)) (by first | exact (if_neg q9).symm | exact (if_pos ((pr_M v.toNat (by omega)).mpr ⟨by omega, fun j a b => q9.2.2 j (by omega) b⟩)).symm | omega) hP hD hS dX1_isPrime_48
              · skip
                exact hret _ _ _ _ _ (()) (by first | rfl | (split <;> rfl)) (by first | exact (if_neg q9).symm | exact (if_pos ((pr_M v.toNat (by omega)).mpr ⟨by omega, fun j a b => q9.2.2 j (by omega) b⟩)).symm | omega) hP hD hS dX1_isPrime_48
            · skip
              replace hb9 : 3 ≤ v ∧ v < 200 ∧ ∀ j, j < k → 2 ≤ j → v.toNat % j ≠ 0 := by
                rcases hb9 with q | q
                · exact q.2
                · omega
              refine lv_iload_n (pc := 29) hx hb dX1_isPrime_29 rfl (lv_at hl 0 rfl) ?_
              refine tq_i (y := nI (v.toNat)) (zI_toNat (by omega)) ?_
              refine lv_iload_n (pc := 30) hx hb dX1_isPrime_30 rfl (lv_at hl 2 rfl) ?_
              refine nv_irem (pc := 31) hx hb (by omega) (by omega) (by omega) dX1_isPrime_31 ?_
              refine nv_if_eq (pc := 32) (tgt := 39) hx hb (a := (v.toNat % k)) (Nat.lt_trans (Nat.mod_lt _ (by omega)) (by omega)) dX1_isPrime_32 (by decide) (fun h32 => ?_) (fun h32 => ?_)
              · skip
                refine nv_iconst (pc := 39) (k := 0) hx hb dX1_isPrime_39 rfl ?_
                refine lv_istore_n (pc := 40) (lv' := [(1, .int (nI (0))), (0, .int (zI (v))), (2, .int (nI (k)))]) hx hb dX1_isPrime_40 rfl hl (by decide) rfl (fun ls hl => ?_)
                refine lv_iinc (pc := 41) (v := nI ((k + 1))) (lv' := [(2, .int (nI ((k + 1)))), (1, .int (nI (0))), (0, .int (zI (v)))]) hx hb dX1_isPrime_41 hl (k := 2) rfl (nI_inc _) (by decide) rfl (fun ls hl => ?_)
                refine lv_goto (pc := 44) (tgt := 20) hx hb dX1_isPrime_44 (by decide) ?_
                exact ih_20 ((k + 1)) (0) (by omega) (by omega) (Or.inr ⟨rfl, fun z => ((pr_M v.toNat (by omega)).mp z).2 k (by omega) hk.1 h32⟩) _ _ _ hP hD hS (lv_sub hl [2, 1, 0] rfl)
              · skip
                refine nv_iconst (pc := 35) (k := 1) hx hb dX1_isPrime_35 rfl ?_
                refine lv_goto (pc := 36) (tgt := 40) hx hb dX1_isPrime_36 (by decide) ?_
                refine lv_istore_n (pc := 40) (lv' := [(1, .int (nI (1))), (0, .int (zI (v))), (2, .int (nI (k)))]) hx hb dX1_isPrime_40 rfl hl (by decide) rfl (fun ls hl => ?_)
                refine lv_iinc (pc := 41) (v := nI ((k + 1))) (lv' := [(2, .int (nI ((k + 1)))), (1, .int (nI (1))), (0, .int (zI (v)))]) hx hb dX1_isPrime_41 hl (k := 2) rfl (nI_inc _) (by decide) rfl (fun ls hl => ?_)
                refine lv_goto (pc := 44) (tgt := 20) hx hb dX1_isPrime_44 (by decide) ?_
                exact ih_20 ((k + 1)) (1) (by omega) (by omega) (Or.inl ⟨rfl, hb9.1, hb9.2.1, fun j a b => (Nat.lt_or_ge j k).elim (fun z => hb9.2.2 j z b) (fun z => by have e : j = k := (by omega); subst e; exact h32)⟩) _ _ _ hP hD hS (lv_sub hl [2, 1, 0] rfl)
      exact L20 _ (2) (1) (Nat.lt_succ_self _) (by omega) (Or.inl ⟨rfl, by omega, by omega, fun j a b => by omega⟩) _ _ _ hP hD hS (lv_sub hl [2, 1, 0] rfl)
set_option maxHeartbeats 4000000 in
set_option maxRecDepth 100000 in
theorem c_X1_setDegree (l : Launch) (dd : va_G) {ad : Nat → Nat} {cI cL cQ : ClassId}  {P : Nat} {G : Nat} {D : Nat} {F : Nat} {ix : Nat → Int32} {ho : Nat → Int64} {re : Nat → Int32} {wk : Nat → Int64} {tu : Nat → Int64} {wa : Nat → Int64} {nx : Nat → Int64} {n : Nat} (h1 : 1 ≤ n) (h2 : n ≤ 12) : CTv l yX1_setDegree wsX1_setDegree ({ frames := 1, cells := 0, slots := 0, locals := 24 } : Room) dd (tysA cI cL cQ) (am_no) [.ref (ad 0), .int (nI (n))] (wM ad cI cL (P) (G) (D) (F) (ix) (ho) (re) (wk) (tu) (wa) (nx)) (fun (u : (Nat → Int64) × (Nat → Int32)) => (∀ k, k < 72 → u.1 k = zL 0) ∧ ∀ i, i < 13 → u.2 i = zI (relM n i)) (fun (u : (Nat → Int64) × (Nat → Int32)) => (wM ad cI cL (P) (G) (n) ((phN n)) (ix) (u.1) (u.2) (wk) (tu) (wa) (nx))) := by
  refine CTv_of (cc := cX1_setDegree) (maxL := 3) (by decide +kernel) rfl (Nat.le_of_ble_eq_true rfl) ?_
  intro p e s m args below meth c A Q ls H locs hx hb hts hown hml hP hK hD hS hA hX hl hret
  have hin : ∀ w ∈ wsX10, w ∈ wsX1_setDegree := by decide +kernel
  have hl : lv_has ls 3 [(0, .ref (ad 0)), (1, .int (nI (n)))] := hl
  have hph := ph_rng n (by omega) h1
  refine lv_aload_n (pc := 0) hx hb dX1_setDegree_0 rfl (lv_at hl 0 rfl) ?_
  refine lv_iload_n (pc := 1) hx hb dX1_setDegree_1 rfl (lv_at hl 1 rfl) ?_
  refine va_put (pc := 2) (D := dd) (ci := 1) (v := .int (nI (n))) (ty := .int) (C := RX1) (T := TX1) (N := 11) hx hb hts hin tyX1 tyX1_ok nmX1 hown hK hP hD hS 0 rfl rfl 2 (by decide) (hts (.fieldLink RX1 52 "TurningSumsModel" "d" "I") (by decide +kernel)) (fun _ h9 => h9) rfl (by decide +kernel) rfl rfl (Nat.le_of_ble_eq_true rfl) dX1_setDegree_2 (fun H locs hP hD hS => ?_)
  have hP : va_P dd vwCl (wM ad cI cL (P) (G) (n) (F) (ix) (ho) (re) (wk) (tu) (wa) (nx)) H := hP
  have hD : va_D A (wM ad cI cL (P) (G) (n) (F) (ix) (ho) (re) (wk) (tu) (wa) (nx)) := hD
  refine lv_aload_n (pc := 5) hx hb dX1_setDegree_5 rfl (lv_at hl 0 rfl) ?_
  refine nv_iconst (pc := 6) (k := 0) hx hb dX1_setDegree_6 rfl ?_
  refine va_put (pc := 7) (D := dd) (ci := 1) (v := .int (nI (0))) (ty := .int) (C := RX1) (T := TX1) (N := 11) hx hb hts hin tyX1 tyX1_ok nmX1 hown hK hP hD hS 0 rfl rfl 3 (by decide) (hts (.fieldLink RX1 55 "TurningSumsModel" "phi" "I") (by decide +kernel)) (fun _ h9 => h9) rfl (by decide +kernel) rfl rfl (Nat.le_of_ble_eq_true rfl) dX1_setDegree_7 (fun H locs hP hD hS => ?_)
  have hP : va_P dd vwCl (wM ad cI cL (P) (G) (n) (0) (ix) (ho) (re) (wk) (tu) (wa) (nx)) H := hP
  have hD : va_D A (wM ad cI cL (P) (G) (n) (0) (ix) (ho) (re) (wk) (tu) (wa) (nx)) := hD
  refine nv_iconst (pc := 10) (k := 1) hx hb dX1_setDegree_10 rfl ?_
  refine lv_istore_n (pc := 11) (lv' := [(2, .int (nI (1))), (0, .ref (ad 0)), (1, .int (nI (n)))]) hx hb dX1_setDegree_11 rfl hl (by decide) rfl (fun ls hl => ?_)
  have L12 : ∀ (n9_12 : Nat), ∀ (j : Nat), n + 1 - j < n9_12 → (j ≤ n) → ∀ (H : Heap) (locs : List Loc) (ls : Array Slot), va_P dd vwCl (wM ad cI cL (P) (G) (n) ((phC n j)) (ix) (ho) (re) (wk) (tu) (wa) (nx)) H → va_D A (wM ad cI cL (P) (G) (n) ((phC n j)) (ix) (ho) (re) (wk) (tu) (wa) (nx)) → va_S A s.heap H locs → lv_has ls 3 [(0, .ref (ad 0)), (1, .int (nI (n))), (2, .int (nI ((j + 1))))] → W p l e ({ frames := 1, cells := 0, slots := 0, locals := 24 } : Room) s m args below meth c H locs 0 0 Q (F0 m 12 ls []) := by
    intro n9_12
    induction n9_12 with
    | zero => intro j hm; exact absurd hm (Nat.not_lt_zero _)
    | succ n9_12 ih_12 =>
      intro j hm_12 hj H locs ls hP hD hS hl
      have hc9 := phC_le n j
      have hgc := Nat.le_of_dvd (by omega) (Nat.gcd_dvd_right (j + 1) n)
      refine lv_iload_n (pc := 12) hx hb dX1_setDegree_12 rfl (lv_at hl 2 rfl) ?_
      refine lv_aload_n (pc := 13) hx hb dX1_setDegree_13 rfl (lv_at hl 0 rfl) ?_
      refine va_get (pc := 14) (D := dd) (ci := 1) (v := .int (nI (n))) (C := RX1) (T := TX1) (N := 11) hx hb hts hin hown hK hP 0 rfl rfl 2 (by decide) (hts (.fieldLink RX1 52 "TurningSumsModel" "d" "I") (by decide +kernel)) (fun _ h9 => h9) rfl dX1_setDegree_14 ?_
      refine nv_icmp_gt (pc := 17) (tgt := 52) hx hb (a := (j + 1)) (b := n) (by omega) (by omega) dX1_setDegree_17 (by decide) (fun h17 => ?_) (fun h17 => ?_)
      · skip
        have e9 : (phC n j) = (phN n) := by rw [show j = n by omega]; rfl
        rw [e9] at hP hD
        have hP : va_P dd vwCl (wM ad cI cL (P) (G) (n) ((phN n)) (ix) (ho) (re) (wk) (tu) (wa) (nx)) H := hP
        have hD : va_D A (wM ad cI cL (P) (G) (n) ((phN n)) (ix) (ho) (re) (wk) (tu) (wa) (nx)) := hD
        refine nv_iconst (pc := 52) (k := 0) hx hb dX1_setDegree_52 rfl ?_
        refine lv_istore_n (pc := 53) (lv' := [(2, .int (nI (0))), (0, .ref (ad 0)), (1, .int (nI (n)))]) hx hb dX1_setDegree_53 rfl hl (by decide) rfl (fun ls hl => ?_)
        have L54 : ∀ (n9_54 : Nat), ∀ (k : Nat) (hov : Nat → Int64), 73 - k < n9_54 → (k ≤ 72) → (∀ a, a < k → hov a = zL 0) → ∀ (H : Heap) (locs : List Loc) (ls : Array Slot), va_P dd vwCl (wM ad cI cL (P) (G) (n) ((phN n)) (ix) (hov) (re) (wk) (tu) (wa) (nx)) H → va_D A (wM ad cI cL (P) (G) (n) ((phN n)) (ix) (hov) (re) (wk) (tu) (wa) (nx)) → va_S A s.heap H locs → lv_has ls 3 [(0, .ref (ad 0)), (1, .int (nI (n))), (2, .int (nI (k)))] → W p l e ({ frames := 1, cells := 0, slots := 0, locals := 24 } : Room) s m args below meth c H locs 0 0 Q (F0 m 54 ls []) := by
          intro n9_54
          induction n9_54 with
          | zero => intro k hov hm; exact absurd hm (Nat.not_lt_zero _)
          | succ n9_54 ih_54 =>
            intro k hov hm_54 hk hho H locs ls hP hD hS hl
            refine lv_iload_n (pc := 54) hx hb dX1_setDegree_54 rfl (lv_at hl 2 rfl) ?_
            refine nv_bipush (pc := 55) (k := 72) hx hb dX1_setDegree_55 rfl (by decide) ?_
            refine nv_icmp_ge (pc := 57) (tgt := 73) hx hb (a := k) (b := 72) (by omega) (by omega) dX1_setDegree_57 (by decide) (fun h57 => ?_) (fun h57 => ?_)
            · skip
              refine nv_iconst (pc := 73) (k := 0) hx hb dX1_setDegree_73 rfl ?_
              refine lv_istore_n (pc := 74) (lv' := [(2, .int (nI (0))), (0, .ref (ad 0)), (1, .int (nI (n)))]) hx hb dX1_setDegree_74 rfl hl (by decide) rfl (fun ls hl => ?_)
              have L75 : ∀ (n9_75 : Nat), ∀ (k2 : Nat) (rv : Nat → Int32), 14 - k2 < n9_75 → (k2 ≤ 13) → (∀ a, a < k2 → rv a = nI 0) → ∀ (H : Heap) (locs : List Loc) (ls : Array Slot), va_P dd vwCl (wM ad cI cL (P) (G) (n) ((phN n)) (ix) (hov) (rv) (wk) (tu) (wa) (nx)) H → va_D A (wM ad cI cL (P) (G) (n) ((phN n)) (ix) (hov) (rv) (wk) (tu) (wa) (nx)) → va_S A s.heap H locs → lv_has ls 3 [(0, .ref (ad 0)), (1, .int (nI (n))), (2, .int (nI (k2)))] → W p l e ({ frames := 1, cells := 0, slots := 0, locals := 24 } : Room) s m args below meth c H locs 0 0 Q (F0 m 75 ls []) := by
                intro n9_75
                induction n9_75 with
                | zero => intro k2 rv hm; exact absurd hm (Nat.not_lt_zero _)
                | succ n9_75 ih_75 =>
                  intro k2 rv hm_75 hk2 hre H locs ls hP hD hS hl
                  refine lv_iload_n (pc := 75) hx hb dX1_setDegree_75 rfl (lv_at hl 2 rfl) ?_
                  refine nv_bipush (pc := 76) (k := 13) hx hb dX1_setDegree_76 rfl (by decide) ?_
                  refine nv_icmp_ge (pc := 78) (tgt := 94) hx hb (a := k2) (b := 13) (by omega) (by omega) dX1_setDegree_78 (by decide) (fun h78 => ?_) (fun h78 => ?_)
                  · skip
                    have hho : ∀ a, a < 72 → hov a = zL 0 := fun a b => hho a (by omega)
                    have hre : ∀ a, a < 13 → rv a = nI 0 := fun a b => hre a (by omega)
                    refine lv_aload_n (pc := 94) hx hb dX1_setDegree_94 rfl (lv_at hl 0 rfl) ?_
                    refine va_get (pc := 95) (D := dd) (ci := 1) (v := .int (nI (n))) (C := RX1) (T := TX1) (N := 11) hx hb hts hin hown hK hP 0 rfl rfl 2 (by decide) (hts (.fieldLink RX1 52 "TurningSumsModel" "d" "I") (by decide +kernel)) (fun _ h9 => h9) rfl dX1_setDegree_95 ?_
                    refine nv_iconst (pc := 98) (k := 1) hx hb dX1_setDegree_98 rfl ?_
                    refine nv_icmp_ne (pc := 99) (tgt := 112) hx hb (a := n) (b := 1) (by omega) (by omega) dX1_setDegree_99 (by decide) (fun h99 => ?_) (fun h99 => ?_)
                    · skip
                      refine lv_aload_n (pc := 112) hx hb dX1_setDegree_112 rfl (lv_at hl 0 rfl) ?_
                      refine va_get (pc := 113) (D := dd) (ci := 1) (v := .int (nI (n))) (C := RX1) (T := TX1) (N := 11) hx hb hts hin hown hK hP 0 rfl rfl 2 (by decide) (hts (.fieldLink RX1 52 "TurningSumsModel" "d" "I") (by decide +kernel)) (fun _ h9 => h9) rfl dX1_setDegree_113 ?_
                      refine nv_iconst (pc := 116) (k := 2) hx hb dX1_setDegree_116 rfl ?_
                      refine nv_icmp_eq (pc := 117) (tgt := 137) hx hb (a := n) (b := 2) (by omega) (by omega) dX1_setDegree_117 (by decide) (fun h117 => ?_) (fun h117 => ?_)
                      · skip
                        refine lv_aload_n (pc := 137) hx hb dX1_setDegree_137 rfl (lv_at hl 0 rfl) ?_
                        refine va_get (pc := 138) (D := dd) (ci := 1) (v := .ref (ad 3)) (C := RX1) (T := TX1) (N := 11) hx hb hts hin hown hK hP 0 rfl rfl 6 (by decide) (hts (.fieldLink RX1 17 "TurningSumsModel" "relation" "[I") (by decide +kernel)) (fun _ h9 => h9) rfl dX1_setDegree_138 ?_
                        refine nv_iconst (pc := 141) (k := 0) hx hb dX1_setDegree_141 rfl ?_
                        refine nv_iconst (pc := 142) (k := 1) hx hb dX1_setDegree_142 rfl ?_
                        refine nv_iast (pc := 143) hx hb hK hP hD hS 3 0 rfl rfl (by omega) (by decide) (ws' := (wM ad cI cL (P) (G) (n) ((phN n)) (ix) (hov) ((upd (rv) (0) (nI (1)))) (wk) (tu) (wa) (nx))) rfl dX1_setDegree_143 (fun H locs hP hD hS => ?_)
                        refine lv_goto (pc := 144) (tgt := 292) hx hb dX1_setDegree_144 (by decide) ?_
                        refine lv_aload_n (pc := 292) hx hb dX1_setDegree_292 rfl (lv_at hl 0 rfl) ?_
                        refine va_get (pc := 293) (D := dd) (ci := 1) (v := .ref (ad 3)) (C := RX1) (T := TX1) (N := 11) hx hb hts hin hown hK hP 0 rfl rfl 6 (by decide) (hts (.fieldLink RX1 17 "TurningSumsModel" "relation" "[I") (by decide +kernel)) (fun _ h9 => h9) rfl dX1_setDegree_293 ?_
                        refine lv_aload_n (pc := 296) hx hb dX1_setDegree_296 rfl (lv_at hl 0 rfl) ?_
                        refine va_get (pc := 297) (D := dd) (ci := 1) (v := .int (nI ((phN n)))) (C := RX1) (T := TX1) (N := 11) hx hb hts hin hown hK hP 0 rfl rfl 3 (by decide) (hts (.fieldLink RX1 55 "TurningSumsModel" "phi" "I") (by decide +kernel)) (fun _ h9 => h9) rfl dX1_setDegree_297 ?_
                        refine nv_iconst (pc := 300) (k := 1) hx hb dX1_setDegree_300 rfl ?_
                        refine nv_iast (pc := 301) hx hb hK hP hD hS 3 0 rfl rfl (by omega) (by decide) (ws' := (wM ad cI cL (P) (G) (n) ((phN n)) (ix) (hov) ((upd ((upd (rv) (0) (nI (1)))) ((phN n)) (nI (1)))) (wk) (tu) (wa) (nx))) rfl dX1_setDegree_301 (fun H locs hP hD hS => ?_)
                        exact hret _ _ _ _ (hov, (upd ((upd (rv) (0) (nI (1)))) ((phN n)) (nI (1)))) (⟨hho, by first | (have e : n = 1 := (by omega); subst e; exact rl_1 hre) | (have e : n = 9 := (by omega); subst e; exact rl_9 hre) | (have e : n = 12 := (by omega); subst e; exact rl_12 hre) | exact rl_2 hre (by omega) | exact rl_3 hre3 (by omega) | exact rl_6 hre6 (by omega)⟩) hP hD hS dX1_setDegree_302
                      · skip
                        refine lv_aload_n (pc := 120) hx hb dX1_setDegree_120 rfl (lv_at hl 0 rfl) ?_
                        refine va_get (pc := 121) (D := dd) (ci := 1) (v := .int (nI (n))) (C := RX1) (T := TX1) (N := 11) hx hb hts hin hown hK hP 0 rfl rfl 2 (by decide) (hts (.fieldLink RX1 52 "TurningSumsModel" "d" "I") (by decide +kernel)) (fun _ h9 => h9) rfl dX1_setDegree_121 ?_
                        refine nv_iconst (pc := 124) (k := 4) hx hb dX1_setDegree_124 rfl ?_
                        refine nv_icmp_eq (pc := 125) (tgt := 137) hx hb (a := n) (b := 4) (by omega) (by omega) dX1_setDegree_125 (by decide) (fun h125 => ?_) (fun h125 => ?_)
                        · skip
                          refine lv_aload_n (pc := 137) hx hb dX1_setDegree_137 rfl (lv_at hl 0 rfl) ?_
                          refine va_get (pc := 138) (D := dd) (ci := 1) (v := .ref (ad 3)) (C := RX1) (T := TX1) (N := 11) hx hb hts hin hown hK hP 0 rfl rfl 6 (by decide) (hts (.fieldLink RX1 17 "TurningSumsModel" "relation" "[I") (by decide +kernel)) (fun _ h9 => h9) rfl dX1_setDegree_138 ?_
                          refine nv_iconst (pc := 141) (k := 0) hx hb dX1_setDegree_141 rfl ?_
                          refine nv_iconst (pc := 142) (k := 1) hx hb dX1_setDegree_142 rfl ?_
                          refine nv_iast (pc := 143) hx hb hK hP hD hS 3 0 rfl rfl (by omega) (by decide) (ws' := (wM ad cI cL (P) (G) (n) ((phN n)) (ix) (hov) ((upd (rv) (0) (nI (1)))) (wk) (tu) (wa) (nx))) rfl dX1_setDegree_143 (fun H locs hP hD hS => ?_)
                          refine lv_goto (pc := 144) (tgt := 292) hx hb dX1_setDegree_144 (by decide) ?_
                          refine lv_aload_n (pc := 292) hx hb dX1_setDegree_292 rfl (lv_at hl 0 rfl) ?_
                          refine va_get (pc := 293) (D := dd) (ci := 1) (v := .ref (ad 3)) (C := RX1) (T := TX1) (N := 11) hx hb hts hin hown hK hP 0 rfl rfl 6 (by decide) (hts (.fieldLink RX1 17 "TurningSumsModel" "relation" "[I") (by decide +kernel)) (fun _ h9 => h9) rfl dX1_setDegree_293 ?_
                          refine lv_aload_n (pc := 296) hx hb dX1_setDegree_296 rfl (lv_at hl 0 rfl) ?_
                          refine va_get (pc := 297) (D := dd) (ci := 1) (v := .int (nI ((phN n)))) (C := RX1) (T := TX1) (N := 11) hx hb hts hin hown hK hP 0 rfl rfl 3 (by decide) (hts (.fieldLink RX1 55 "TurningSumsModel" "phi" "I") (by decide +kernel)) (fun _ h9 => h9) rfl dX1_setDegree_297 ?_
                          refine nv_iconst (pc := 300) (k := 1) hx hb dX1_setDegree_300 rfl ?_
                          refine nv_iast (pc := 301) hx hb hK hP hD hS 3 0 rfl rfl (by omega) (by decide) (ws' := (wM ad cI cL (P) (G) (n) ((phN n)) (ix) (hov) ((upd ((upd (rv) (0) (nI (1)))) ((phN n)) (nI (1)))) (wk) (tu) (wa) (nx))) rfl dX1_setDegree_301 (fun H locs hP hD hS => ?_)
                          exact hret _ _ _ _ (hov, (upd ((upd (rv) (0) (nI (1)))) ((phN n)) (nI (1)))) (⟨hho, by first | (have e : n = 1 := (by omega); subst e; exact rl_1 hre) | (have e : n = 9 := (by omega); subst e; exact rl_9 hre) | (have e : n = 12 := (by omega); subst e; exact rl_12 hre) | exact rl_2 hre (by omega) | exact rl_3 hre3 (by omega) | exact rl_6 hre6 (by omega)⟩) hP hD hS dX1_setDegree_302
                        · skip
                          refine lv_aload_n (pc := 128) hx hb dX1_setDegree_128 rfl (lv_at hl 0 rfl) ?_
                          refine va_get (pc := 129) (D := dd) (ci := 1) (v := .int (nI (n))) (C := RX1) (T := TX1) (N := 11) hx hb hts hin hown hK hP 0 rfl rfl 2 (by decide) (hts (.fieldLink RX1 52 "TurningSumsModel" "d" "I") (by decide +kernel)) (fun _ h9 => h9) rfl dX1_setDegree_129 ?_
                          refine nv_bipush (pc := 132) (k := 8) hx hb dX1_setDegree_132 rfl (by decide) ?_
                          refine nv_icmp_ne (pc := 134) (tgt := 147) hx hb (a := n) (b := 8) (by omega) (by omega) dX1_setDegree_134 (by decide) (fun h134 => ?_) (fun h134 => ?_)
                          · skip
                            refine lv_aload_n (pc := 147) hx hb dX1_setDegree_147 rfl (lv_at hl 0 rfl) ?_
                            refine va_get (pc := 148) (D := dd) (ci := 1) (v := .int (nI (n))) (C := RX1) (T := TX1) (N := 11) hx hb hts hin hown hK hP 0 rfl rfl 2 (by decide) (hts (.fieldLink RX1 52 "TurningSumsModel" "d" "I") (by decide +kernel)) (fun _ h9 => h9) rfl dX1_setDegree_148 ?_
                            refine nv_iconst (pc := 151) (k := 3) hx hb dX1_setDegree_151 rfl ?_
                            refine nv_icmp_eq (pc := 152) (tgt := 181) hx hb (a := n) (b := 3) (by omega) (by omega) dX1_setDegree_152 (by decide) (fun h152 => ?_) (fun h152 => ?_)
                            · skip
                              refine nv_iconst (pc := 181) (k := 0) hx hb dX1_setDegree_181 rfl ?_
                              refine lv_istore_n (pc := 182) (lv' := [(2, .int (nI (0))), (0, .ref (ad 0)), (1, .int (nI (n)))]) hx hb dX1_setDegree_182 rfl hl (by decide) rfl (fun ls hl => ?_)
                              have L183 : ∀ (n9_183 : Nat), ∀ (k3 : Nat) (rw3 : Nat → Int32), 14 - k3 < n9_183 → (k3 ≤ n) → (∀ i, i < 13 → rw3 i = if i < k3 then nI 1 else nI 0) → ∀ (H : Heap) (locs : List Loc) (ls : Array Slot), va_P dd vwCl (wM ad cI cL (P) (G) (n) ((phN n)) (ix) (hov) (rw3) (wk) (tu) (wa) (nx)) H → va_D A (wM ad cI cL (P) (G) (n) ((phN n)) (ix) (hov) (rw3) (wk) (tu) (wa) (nx)) → va_S A s.heap H locs → lv_has ls 3 [(0, .ref (ad 0)), (1, .int (nI (n))), (2, .int (nI (k3)))] → W p l e ({ frames := 1, cells := 0, slots := 0, locals := 24 } : Room) s m args below meth c H locs 0 0 Q (F0 m 183 ls []) := by
                                intro n9_183
                                induction n9_183 with
                                | zero => intro k3 rw3 hm; exact absurd hm (Nat.not_lt_zero _)
                                | succ n9_183 ih_183 =>
                                  intro k3 rw3 hm_183 hk3 hre3 H locs ls hP hD hS hl
                                  refine lv_iload_n (pc := 183) hx hb dX1_setDegree_183 rfl (lv_at hl 2 rfl) ?_
                                  refine lv_aload_n (pc := 184) hx hb dX1_setDegree_184 rfl (lv_at hl 0 rfl) ?_
                                  refine va_get (pc := 185) (D := dd) (ci := 1) (v := .int (nI (n))) (C := RX1) (T := TX1) (N := 11) hx hb hts hin hown hK hP 0 rfl rfl 2 (by decide) (hts (.fieldLink RX1 52 "TurningSumsModel" "d" "I") (by decide +kernel)) (fun _ h9 => h9) rfl dX1_setDegree_185 ?_
                                  refine nv_icmp_ge (pc := 188) (tgt := 204) hx hb (a := k3) (b := n) (by omega) (by omega) dX1_setDegree_188 (by decide) (fun h188 => ?_) (fun h188 => ?_)
                                  · skip
                                    have hre3 : ∀ i, i < 13 → rw3 i = if i < n then nI 1 else nI 0 := by rw [show k3 = n by omega] at hre3; exact hre3
                                    refine lv_goto (pc := 204) (tgt := 292) hx hb dX1_setDegree_204 (by decide) ?_
                                    refine lv_aload_n (pc := 292) hx hb dX1_setDegree_292 rfl (lv_at hl 0 rfl) ?_
                                    refine va_get (pc := 293) (D := dd) (ci := 1) (v := .ref (ad 3)) (C := RX1) (T := TX1) (N := 11) hx hb hts hin hown hK hP 0 rfl rfl 6 (by decide) (hts (.fieldLink RX1 17 "TurningSumsModel" "relation" "[I") (by decide +kernel)) (fun _ h9 => h9) rfl dX1_setDegree_293 ?_
                                    refine lv_aload_n (pc := 296) hx hb dX1_setDegree_296 rfl (lv_at hl 0 rfl) ?_
                                    refine va_get (pc := 297) (D := dd) (ci := 1) (v := .int (nI ((phN n)))) (C := RX1) (T := TX1) (N := 11) hx hb hts hin hown hK hP 0 rfl rfl 3 (by decide) (hts (.fieldLink RX1 55 "TurningSumsModel" "phi" "I") (by decide +kernel)) (fun _ h9 => h9) rfl dX1_setDegree_297 ?_
                                    refine nv_iconst (pc := 300) (k := 1) hx hb dX1_setDegree_300 rfl ?_
                                    refine nv_iast (pc := 301) hx hb hK hP hD hS 3 0 rfl rfl (by omega) (by decide) (ws' := (wM ad cI cL (P) (G) (n) ((phN n)) (ix) (hov) ((upd (rw3) ((phN n)) (nI (1)))) (wk) (tu) (wa) (nx))) rfl dX1_setDegree_301 (fun H locs hP hD hS => ?_)
                                    exact hret _ _ _ _ (hov, (upd (rw3) ((phN n)) (nI (1)))) (⟨hho, by first | (have e : n = 1 := (by omega); subst e; exact rl_1 hre) | (have e : n = 9 := (by omega); subst e; exact rl_9 hre) | (have e : n = 12 := (by omega); subst e; exact rl_12 hre) | exact rl_2 hre (by omega) | exact rl_3 hre3 (by omega) | exact rl_6 hre6 (by omega)⟩) hP hD hS dX1_setDegree_302
                                  · skip
                                    refine lv_aload_n (pc := 191) hx hb dX1_setDegree_191 rfl (lv_at hl 0 rfl) ?_
                                    refine va_get (pc := 192) (D := dd) (ci := 1) (v := .ref (ad 3)) (C := RX1) (T := TX1) (N := 11) hx hb hts hin hown hK hP 0 rfl rfl 6 (by decide) (hts (.fieldLink RX1 17 "TurningSumsModel" "relation" "[I") (by decide +kernel)) (fun _ h9 => h9) rfl dX1_setDegree_192 ?_
                                    refine lv_iload_n (pc := 195) hx hb dX1_setDegree_195 rfl (lv_at hl 2 rfl) ?_
                                    refine nv_iconst (pc := 196) (k := 1) hx hb dX1_setDegree_196 rfl ?_
                                    refine nv_iast (pc := 197) hx hb hK hP hD hS 3 0 rfl rfl (by omega) (by decide) (ws' := (wM ad cI cL (P) (G) (n) ((phN n)) (ix) (hov) ((upd (rw3) (k3) (nI (1)))) (wk) (tu) (wa) (nx))) rfl dX1_setDegree_197 (fun H locs hP hD hS => ?_)
                                    refine lv_iinc (pc := 198) (v := nI ((k3 + 1))) (lv' := [(2, .int (nI ((k3 + 1)))), (0, .ref (ad 0)), (1, .int (nI (n)))]) hx hb dX1_setDegree_198 hl (k := 2) rfl (nI_inc _) (by decide) rfl (fun ls hl => ?_)
                                    refine lv_goto (pc := 201) (tgt := 183) hx hb dX1_setDegree_201 (by decide) ?_
                                    exact ih_183 ((k3 + 1)) ((upd (rw3) (k3) (nI (1)))) (by omega) (by omega) (updi hre3) _ _ _ hP hD hS (lv_sub hl [1, 2, 0] rfl)
                              exact L183 _ (0) (rv) (Nat.lt_succ_self _) (by omega) (fun i b => by rw [if_neg (by omega)]; exact hre i b) _ _ _ hP hD hS (lv_sub hl [1, 2, 0] rfl)
                            · skip
                              refine lv_aload_n (pc := 155) hx hb dX1_setDegree_155 rfl (lv_at hl 0 rfl) ?_
                              refine va_get (pc := 156) (D := dd) (ci := 1) (v := .int (nI (n))) (C := RX1) (T := TX1) (N := 11) hx hb hts hin hown hK hP 0 rfl rfl 2 (by decide) (hts (.fieldLink RX1 52 "TurningSumsModel" "d" "I") (by decide +kernel)) (fun _ h9 => h9) rfl dX1_setDegree_156 ?_
                              refine nv_iconst (pc := 159) (k := 5) hx hb dX1_setDegree_159 rfl ?_
                              refine nv_icmp_eq (pc := 160) (tgt := 181) hx hb (a := n) (b := 5) (by omega) (by omega) dX1_setDegree_160 (by decide) (fun h160 => ?_) (fun h160 => ?_)
                              · skip
                                refine nv_iconst (pc := 181) (k := 0) hx hb dX1_setDegree_181 rfl ?_
                                refine lv_istore_n (pc := 182) (lv' := [(2, .int (nI (0))), (0, .ref (ad 0)), (1, .int (nI (n)))]) hx hb dX1_setDegree_182 rfl hl (by decide) rfl (fun ls hl => ?_)
                                have L183 : ∀ (n9_183 : Nat), ∀ (k3 : Nat) (rw3 : Nat → Int32), 14 - k3 < n9_183 → (k3 ≤ n) → (∀ i, i < 13 → rw3 i = if i < k3 then nI 1 else nI 0) → ∀ (H : Heap) (locs : List Loc) (ls : Array Slot), va_P dd vwCl (wM ad cI cL (P) (G) (n) ((phN n)) (ix) (hov) (rw3) (wk) (tu) (wa) (nx)) H → va_D A (wM ad cI cL (P) (G) (n) ((phN n)) (ix) (hov) (rw3) (wk) (tu) (wa) (nx)) → va_S A s.heap H locs → lv_has ls 3 [(0, .ref (ad 0)), (1, .int (nI (n))), (2, .int (nI (k3)))] → W p l e ({ frames := 1, cells := 0, slots := 0, locals := 24 } : Room) s m args below meth c H locs 0 0 Q (F0 m 183 ls []) := by
                                  intro n9_183
                                  induction n9_183 with
                                  | zero => intro k3 rw3 hm; exact absurd hm (Nat.not_lt_zero _)
                                  | succ n9_183 ih_183 =>
                                    intro k3 rw3 hm_183 hk3 hre3 H locs ls hP hD hS hl
                                    refine lv_iload_n (pc := 183) hx hb dX1_setDegree_183 rfl (lv_at hl 2 rfl) ?_
                                    refine lv_aload_n (pc := 184) hx hb dX1_setDegree_184 rfl (lv_at hl 0 rfl) ?_
                                    refine va_get (pc := 185) (D := dd) (ci := 1) (v := .int (nI (n))) (C := RX1) (T := TX1) (N := 11) hx hb hts hin hown hK hP 0 rfl rfl 2 (by decide) (hts (.fieldLink RX1 52 "TurningSumsModel" "d" "I") (by decide +kernel)) (fun _ h9 => h9) rfl dX1_setDegree_185 ?_
                                    refine nv_icmp_ge (pc := 188) (tgt := 204) hx hb (a := k3) (b := n) (by omega) (by omega) dX1_setDegree_188 (by decide) (fun h188 => ?_) (fun h188 => ?_)
                                    · skip
                                      have hre3 : ∀ i, i < 13 → rw3 i = if i < n then nI 1 else nI 0 := by rw [show k3 = n by omega] at hre3; exact hre3
                                      refine lv_goto (pc := 204) (tgt := 292) hx hb dX1_setDegree_204 (by decide) ?_
                                      refine lv_aload_n (pc := 292) hx hb dX1_setDegree_292 rfl (lv_at hl 0 rfl) ?_
                                      refine va_get (pc := 293) (D := dd) (ci := 1) (v := .ref (ad 3)) (C := RX1) (T := TX1) (N := 11) hx hb hts hin hown hK hP 0 rfl rfl 6 (by decide) (hts (.fieldLink RX1 17 "TurningSumsModel" "relation" "[I") (by decide +kernel)) (fun _ h9 => h9) rfl dX1_setDegree_293 ?_
                                      refine lv_aload_n (pc := 296) hx hb dX1_setDegree_296 rfl (lv_at hl 0 rfl) ?_
                                      refine va_get (pc := 297) (D := dd) (ci := 1) (v := .int (nI ((phN n)))) (C := RX1) (T := TX1) (N := 11) hx hb hts hin hown hK hP 0 rfl rfl 3 (by decide) (hts (.fieldLink RX1 55 "TurningSumsModel" "phi" "I") (by decide +kernel)) (fun _ h9 => h9) rfl dX1_setDegree_297 ?_
                                      refine nv_iconst (pc := 300) (k := 1) hx hb dX1_setDegree_300 rfl ?_
                                      refine nv_iast (pc := 301) hx hb hK hP hD hS 3 0 rfl rfl (by omega) (by decide) (ws' := (wM ad cI cL (P) (G) (n) ((phN n)) (ix) (hov) ((upd (rw3) ((phN n)) (nI (1)))) (wk) (tu) (wa) (nx))) rfl dX1_setDegree_301 (fun H locs hP hD hS => ?_)
                                      exact hret _ _ _ _ (hov, (upd (rw3) ((phN n)) (nI (1)))) (⟨hho, by first | (have e : n = 1 := (by omega); subst e; exact rl_1 hre) | (have e : n = 9 := (by omega); subst e; exact rl_9 hre) | (have e : n = 12 := (by omega); subst e; exact rl_12 hre) | exact rl_2 hre (by omega) | exact rl_3 hre3 (by omega) | exact rl_6 hre6 (by omega)⟩) hP hD hS dX1_setDegree_302
                                    · skip
                                      refine lv_aload_n (pc := 191) hx hb dX1_setDegree_191 rfl (lv_at hl 0 rfl) ?_
                                      refine va_get (pc := 192) (D := dd) (ci := 1) (v := .ref (ad 3)) (C := RX1) (T := TX1) (N := 11) hx hb hts hin hown hK hP 0 rfl rfl 6 (by decide) (hts (.fieldLink RX1 17 "TurningSumsModel" "relation" "[I") (by decide +kernel)) (fun _ h9 => h9) rfl dX1_setDegree_192 ?_
                                      refine lv_iload_n (pc := 195) hx hb dX1_setDegree_195 rfl (lv_at hl 2 rfl) ?_
                                      refine nv_iconst (pc := 196) (k := 1) hx hb dX1_setDegree_196 rfl ?_
                                      refine nv_iast (pc := 197) hx hb hK hP hD hS 3 0 rfl rfl (by omega) (by decide) (ws' := (wM ad cI cL (P) (G) (n) ((phN n)) (ix) (hov) ((upd (rw3) (k3) (nI (1)))) (wk) (tu) (wa) (nx))) rfl dX1_setDegree_197 (fun H locs hP hD hS => ?_)
                                      refine lv_iinc (pc := 198) (v := nI ((k3 + 1))) (lv' := [(2, .int (nI ((k3 + 1)))), (0, .ref (ad 0)), (1, .int (nI (n)))]) hx hb dX1_setDegree_198 hl (k := 2) rfl (nI_inc _) (by decide) rfl (fun ls hl => ?_)
                                      refine lv_goto (pc := 201) (tgt := 183) hx hb dX1_setDegree_201 (by decide) ?_
                                      exact ih_183 ((k3 + 1)) ((upd (rw3) (k3) (nI (1)))) (by omega) (by omega) (updi hre3) _ _ _ hP hD hS (lv_sub hl [1, 2, 0] rfl)
                                exact L183 _ (0) (rv) (Nat.lt_succ_self _) (by omega) (fun i b => by rw [if_neg (by omega)]; exact hre i b) _ _ _ hP hD hS (lv_sub hl [1, 2, 0] rfl)
                              · skip
                                refine lv_aload_n (pc := 163) hx hb dX1_setDegree_163 rfl (lv_at hl 0 rfl) ?_
                                refine va_get (pc := 164) (D := dd) (ci := 1) (v := .int (nI (n))) (C := RX1) (T := TX1) (N := 11) hx hb hts hin hown hK hP 0 rfl rfl 2 (by decide) (hts (.fieldLink RX1 52 "TurningSumsModel" "d" "I") (by decide +kernel)) (fun _ h9 => h9) rfl dX1_setDegree_164 ?_
                                refine nv_bipush (pc := 167) (k := 7) hx hb dX1_setDegree_167 rfl (by decide) ?_
                                refine nv_icmp_eq (pc := 169) (tgt := 181) hx hb (a := n) (b := 7) (by omega) (by omega) dX1_setDegree_169 (by decide) (fun h169 => ?_) (fun h169 => ?_)
                                · skip
                                  refine nv_iconst (pc := 181) (k := 0) hx hb dX1_setDegree_181 rfl ?_
                                  refine lv_istore_n (pc := 182) (lv' := [(2, .int (nI (0))), (0, .ref (ad 0)), (1, .int (nI (n)))]) hx hb dX1_setDegree_182 rfl hl (by decide) rfl (fun ls hl => ?_)
                                  have L183 : ∀ (n9_183 : Nat), ∀ (k3 : Nat) (rw3 : Nat → Int32), 14 - k3 < n9_183 → (k3 ≤ n) → (∀ i, i < 13 → rw3 i = if i < k3 then nI 1 else nI 0) → ∀ (H : Heap) (locs : List Loc) (ls : Array Slot), va_P dd vwCl (wM ad cI cL (P) (G) (n) ((phN n)) (ix) (hov) (rw3) (wk) (tu) (wa) (nx)) H → va_D A (wM ad cI cL (P) (G) (n) ((phN n)) (ix) (hov) (rw3) (wk) (tu) (wa) (nx)) → va_S A s.heap H locs → lv_has ls 3 [(0, .ref (ad 0)), (1, .int (nI (n))), (2, .int (nI (k3)))] → W p l e ({ frames := 1, cells := 0, slots := 0, locals := 24 } : Room) s m args below meth c H locs 0 0 Q (F0 m 183 ls []) := by
                                    intro n9_183
                                    induction n9_183 with
                                    | zero => intro k3 rw3 hm; exact absurd hm (Nat.not_lt_zero _)
                                    | succ n9_183 ih_183 =>
                                      intro k3 rw3 hm_183 hk3 hre3 H locs ls hP hD hS hl
                                      refine lv_iload_n (pc := 183) hx hb dX1_setDegree_183 rfl (lv_at hl 2 rfl) ?_
                                      refine lv_aload_n (pc := 184) hx hb dX1_setDegree_184 rfl (lv_at hl 0 rfl) ?_
                                      refine va_get (pc := 185) (D := dd) (ci := 1) (v := .int (nI (n))) (C := RX1) (T := TX1) (N := 11) hx hb hts hin hown hK hP 0 rfl rfl 2 (by decide) (hts (.fieldLink RX1 52 "TurningSumsModel" "d" "I") (by decide +kernel)) (fun _ h9 => h9) rfl dX1_setDegree_185 ?_
                                      refine nv_icmp_ge (pc := 188) (tgt := 204) hx hb (a := k3) (b := n) (by omega) (by omega) dX1_setDegree_188 (by decide) (fun h188 => ?_) (fun h188 => ?_)
                                      · skip
                                        have hre3 : ∀ i, i < 13 → rw3 i = if i < n then nI 1 else nI 0 := by rw [show k3 = n by omega] at hre3; exact hre3
                                        refine lv_goto (pc := 204) (tgt := 292) hx hb dX1_setDegree_204 (by decide) ?_
                                        refine lv_aload_n (pc := 292) hx hb dX1_setDegree_292 rfl (lv_at hl 0 rfl) ?_
                                        refine va_get (pc := 293) (D := dd) (ci := 1) (v := .ref (ad 3)) (C := RX1) (T := TX1) (N := 11) hx hb hts hin hown hK hP 0 rfl rfl 6 (by decide) (hts (.fieldLink RX1 17 "TurningSumsModel" "relation" "[I") (by decide +kernel)) (fun _ h9 => h9) rfl dX1_setDegree_293 ?_
                                        refine lv_aload_n (pc := 296) hx hb dX1_setDegree_296 rfl (lv_at hl 0 rfl) ?_
                                        refine va_get (pc := 297) (D := dd) (ci := 1) (v := .int (nI ((phN n)))) (C := RX1) (T := TX1) (N := 11) hx hb hts hin hown hK hP 0 rfl rfl 3 (by decide) (hts (.fieldLink RX1 55 "TurningSumsModel" "phi" "I") (by decide +kernel)) (fun _ h9 => h9) rfl dX1_setDegree_297 ?_
                                        refine nv_iconst (pc := 300) (k := 1) hx hb dX1_setDegree_300 rfl ?_
                                        refine nv_iast (pc := 301) hx hb hK hP hD hS 3 0 rfl rfl (by omega) (by decide) (ws' := (wM ad cI cL (P) (G) (n) ((phN n)) (ix) (hov) ((upd (rw3) ((phN n)) (nI (1)))) (wk) (tu) (wa) (nx))) rfl dX1_setDegree_301 (fun H locs hP hD hS => ?_)
                                        exact hret _ _ _ _ (hov, (upd (rw3) ((phN n)) (nI (1)))) (⟨hho, by first | (have e : n = 1 := (by omega); subst e; exact rl_1 hre) | (have e : n = 9 := (by omega); subst e; exact rl_9 hre) | (have e : n = 12 := (by omega); subst e; exact rl_12 hre) | exact rl_2 hre (by omega) | exact rl_3 hre3 (by omega) | exact rl_6 hre6 (by omega)⟩) hP hD hS dX1_setDegree_302
                                      · skip
                                        refine lv_aload_n (pc := 191) hx hb dX1_setDegree_191 rfl (lv_at hl 0 rfl) ?_
                                        refine va_get (pc := 192) (D := dd) (ci := 1) (v := .ref (ad 3)) (C := RX1) (T := TX1) (N := 11) hx hb hts hin hown hK hP 0 rfl rfl 6 (by decide) (hts (.fieldLink RX1 17 "TurningSumsModel" "relation" "[I") (by decide +kernel)) (fun _ h9 => h9) rfl dX1_setDegree_192 ?_
                                        refine lv_iload_n (pc := 195) hx hb dX1_setDegree_195 rfl (lv_at hl 2 rfl) ?_
                                        refine nv_iconst (pc := 196) (k := 1) hx hb dX1_setDegree_196 rfl ?_
                                        refine nv_iast (pc := 197) hx hb hK hP hD hS 3 0 rfl rfl (by omega) (by decide) (ws' := (wM ad cI cL (P) (G) (n) ((phN n)) (ix) (hov) ((upd (rw3) (k3) (nI (1)))) (wk) (tu) (wa) (nx))) rfl dX1_setDegree_197 (fun H locs hP hD hS => ?_)
                                        refine lv_iinc (pc := 198) (v := nI ((k3 + 1))) (lv' := [(2, .int (nI ((k3 + 1)))), (0, .ref (ad 0)), (1, .int (nI (n)))]) hx hb dX1_setDegree_198 hl (k := 2) rfl (nI_inc _) (by decide) rfl (fun ls hl => ?_)
                                        refine lv_goto (pc := 201) (tgt := 183) hx hb dX1_setDegree_201 (by decide) ?_
                                        exact ih_183 ((k3 + 1)) ((upd (rw3) (k3) (nI (1)))) (by omega) (by omega) (updi hre3) _ _ _ hP hD hS (lv_sub hl [1, 2, 0] rfl)
                                  exact L183 _ (0) (rv) (Nat.lt_succ_self _) (by omega) (fun i b => by rw [if_neg (by omega)]; exact hre i b) _ _ _ hP hD hS (lv_sub hl [1, 2, 0] rfl)
                                · skip
                                  refine lv_aload_n (pc := 172) hx hb dX1_setDegree_172 rfl (lv_at hl 0 rfl) ?_
                                  refine va_get (pc := 173) (D := dd) (ci := 1) (v := .int (nI (n))) (C := RX1) (T := TX1) (N := 11) hx hb hts hin hown hK hP 0 rfl rfl 2 (by decide) (hts (.fieldLink RX1 52 "TurningSumsModel" "d" "I") (by decide +kernel)) (fun _ h9 => h9) rfl dX1_setDegree_173 ?_
                                  refine nv_bipush (pc := 176) (k := 11) hx hb dX1_setDegree_176 rfl (by decide) ?_
                                  refine nv_icmp_ne (pc := 178) (tgt := 207) hx hb (a := n) (b := 11) (by omega) (by omega) dX1_setDegree_178 (by decide) (fun h178 => ?_) (fun h178 => ?_)
                                  · skip
                                    refine lv_aload_n (pc := 207) hx hb dX1_setDegree_207 rfl (lv_at hl 0 rfl) ?_
                                    refine va_get (pc := 208) (D := dd) (ci := 1) (v := .int (nI (n))) (C := RX1) (T := TX1) (N := 11) hx hb hts hin hown hK hP 0 rfl rfl 2 (by decide) (hts (.fieldLink RX1 52 "TurningSumsModel" "d" "I") (by decide +kernel)) (fun _ h9 => h9) rfl dX1_setDegree_208 ?_
                                    refine nv_bipush (pc := 211) (k := 9) hx hb dX1_setDegree_211 rfl (by decide) ?_
                                    refine nv_icmp_ne (pc := 213) (tgt := 233) hx hb (a := n) (b := 9) (by omega) (by omega) dX1_setDegree_213 (by decide) (fun h213 => ?_) (fun h213 => ?_)
                                    · skip
                                      refine lv_aload_n (pc := 233) hx hb dX1_setDegree_233 rfl (lv_at hl 0 rfl) ?_
                                      refine va_get (pc := 234) (D := dd) (ci := 1) (v := .int (nI (n))) (C := RX1) (T := TX1) (N := 11) hx hb hts hin hown hK hP 0 rfl rfl 2 (by decide) (hts (.fieldLink RX1 52 "TurningSumsModel" "d" "I") (by decide +kernel)) (fun _ h9 => h9) rfl dX1_setDegree_234 ?_
                                      refine nv_bipush (pc := 237) (k := 12) hx hb dX1_setDegree_237 rfl (by decide) ?_
                                      refine nv_icmp_ne (pc := 239) (tgt := 259) hx hb (a := n) (b := 12) (by omega) (by omega) dX1_setDegree_239 (by decide) (fun h239 => ?_) (fun h239 => ?_)
                                      · skip
                                        refine nv_iconst (pc := 259) (k := 0) hx hb dX1_setDegree_259 rfl ?_
                                        refine lv_istore_n (pc := 260) (lv' := [(2, .int (nI (0))), (0, .ref (ad 0)), (1, .int (nI (n)))]) hx hb dX1_setDegree_260 rfl hl (by decide) rfl (fun ls hl => ?_)
                                        have L261 : ∀ (n9_261 : Nat), ∀ (k6 : Nat) (rw6 : Nat → Int32), 14 - k6 < n9_261 → (k6 ≤ phN n + 1) → (∀ i, i < 13 → rw6 i = if i < k6 then (if i % 2 = 0 then nI 1 else zI (-1)) else nI 0) → ∀ (H : Heap) (locs : List Loc) (ls : Array Slot), va_P dd vwCl (wM ad cI cL (P) (G) (n) ((phN n)) (ix) (hov) (rw6) (wk) (tu) (wa) (nx)) H → va_D A (wM ad cI cL (P) (G) (n) ((phN n)) (ix) (hov) (rw6) (wk) (tu) (wa) (nx)) → va_S A s.heap H locs → lv_has ls 3 [(0, .ref (ad 0)), (1, .int (nI (n))), (2, .int (nI (k6)))] → W p l e ({ frames := 1, cells := 0, slots := 0, locals := 24 } : Room) s m args below meth c H locs 0 0 Q (F0 m 261 ls []) := by
                                          intro n9_261
                                          induction n9_261 with
                                          | zero => intro k6 rw6 hm; exact absurd hm (Nat.not_lt_zero _)
                                          | succ n9_261 ih_261 =>
                                            intro k6 rw6 hm_261 hk6 hre6 H locs ls hP hD hS hl
                                            refine lv_iload_n (pc := 261) hx hb dX1_setDegree_261 rfl (lv_at hl 2 rfl) ?_
                                            refine lv_aload_n (pc := 262) hx hb dX1_setDegree_262 rfl (lv_at hl 0 rfl) ?_
                                            refine va_get (pc := 263) (D := dd) (ci := 1) (v := .int (nI ((phN n)))) (C := RX1) (T := TX1) (N := 11) hx hb hts hin hown hK hP 0 rfl rfl 3 (by decide) (hts (.fieldLink RX1 55 "TurningSumsModel" "phi" "I") (by decide +kernel)) (fun _ h9 => h9) rfl dX1_setDegree_263 ?_
                                            refine nv_icmp_gt (pc := 266) (tgt := 292) hx hb (a := k6) (b := (phN n)) (by omega) (by omega) dX1_setDegree_266 (by decide) (fun h266 => ?_) (fun h266 => ?_)
                                            · skip
                                              have hre6 : ∀ i, i < 13 → rw6 i = if i < phN n + 1 then (if i % 2 = 0 then nI 1 else zI (-1)) else nI 0 := by rw [show k6 = phN n + 1 by omega] at hre6; exact hre6
                                              refine lv_aload_n (pc := 292) hx hb dX1_setDegree_292 rfl (lv_at hl 0 rfl) ?_
                                              refine va_get (pc := 293) (D := dd) (ci := 1) (v := .ref (ad 3)) (C := RX1) (T := TX1) (N := 11) hx hb hts hin hown hK hP 0 rfl rfl 6 (by decide) (hts (.fieldLink RX1 17 "TurningSumsModel" "relation" "[I") (by decide +kernel)) (fun _ h9 => h9) rfl dX1_setDegree_293 ?_
                                              refine lv_aload_n (pc := 296) hx hb dX1_setDegree_296 rfl (lv_at hl 0 rfl) ?_
                                              refine va_get (pc := 297) (D := dd) (ci := 1) (v := .int (nI ((phN n)))) (C := RX1) (T := TX1) (N := 11) hx hb hts hin hown hK hP 0 rfl rfl 3 (by decide) (hts (.fieldLink RX1 55 "TurningSumsModel" "phi" "I") (by decide +kernel)) (fun _ h9 => h9) rfl dX1_setDegree_297 ?_
                                              refine nv_iconst (pc := 300) (k := 1) hx hb dX1_setDegree_300 rfl ?_
                                              refine nv_iast (pc := 301) hx hb hK hP hD hS 3 0 rfl rfl (by omega) (by decide) (ws' := (wM ad cI cL (P) (G) (n) ((phN n)) (ix) (hov) ((upd (rw6) ((phN n)) (nI (1)))) (wk) (tu) (wa) (nx))) rfl dX1_setDegree_301 (fun H locs hP hD hS => ?_)
                                              exact hret _ _ _ _ (hov, (upd (rw6) ((phN n)) (nI (1)))) (⟨hho, by first | (have e : n = 1 := (by omega); subst e; exact rl_1 hre) | (have e : n = 9 := (by omega); subst e; exact rl_9 hre) | (have e : n = 12 := (by omega); subst e; exact rl_12 hre) | exact rl_2 hre (by omega) | exact rl_3 hre3 (by omega) | exact rl_6 hre6 (by omega)⟩) hP hD hS dX1_setDegree_302
                                            · skip
                                              refine lv_aload_n (pc := 269) hx hb dX1_setDegree_269 rfl (lv_at hl 0 rfl) ?_
                                              refine va_get (pc := 270) (D := dd) (ci := 1) (v := .ref (ad 3)) (C := RX1) (T := TX1) (N := 11) hx hb hts hin hown hK hP 0 rfl rfl 6 (by decide) (hts (.fieldLink RX1 17 "TurningSumsModel" "relation" "[I") (by decide +kernel)) (fun _ h9 => h9) rfl dX1_setDegree_270 ?_
                                              refine lv_iload_n (pc := 273) hx hb dX1_setDegree_273 rfl (lv_at hl 2 rfl) ?_
                                              refine lv_iload_n (pc := 274) hx hb dX1_setDegree_274 rfl (lv_at hl 2 rfl) ?_
                                              refine nv_iconst (pc := 275) (k := 2) hx hb dX1_setDegree_275 rfl ?_
                                              refine nv_irem (pc := 276) hx hb (by omega) (by omega) (by omega) dX1_setDegree_276 ?_
                                              refine nv_if_ne (pc := 277) (tgt := 284) hx hb (a := (k6 % 2)) (Nat.lt_trans (Nat.mod_lt _ (by omega)) (by omega)) dX1_setDegree_277 (by decide) (fun h277 => ?_) (fun h277 => ?_)
                                              · skip
                                                refine lv_iconst (pc := 284) (v := zI (-1)) hx hb dX1_setDegree_284 rfl ?_
                                                refine nv_iast (pc := 285) hx hb hK hP hD hS 3 0 rfl rfl (by omega) (by decide) (ws' := (wM ad cI cL (P) (G) (n) ((phN n)) (ix) (hov) ((upd (rw6) (k6) (zI ((-1))))) (wk) (tu) (wa) (nx))) rfl dX1_setDegree_285 (fun H locs hP hD hS => ?_)
                                                refine lv_iinc (pc := 286) (v := nI ((k6 + 1))) (lv' := [(2, .int (nI ((k6 + 1)))), (0, .ref (ad 0)), (1, .int (nI (n)))]) hx hb dX1_setDegree_286 hl (k := 2) rfl (nI_inc _) (by decide) rfl (fun ls hl => ?_)
                                                refine lv_goto (pc := 289) (tgt := 261) hx hb dX1_setDegree_289 (by decide) ?_
                                                exact ih_261 ((k6 + 1)) ((upd (rw6) (k6) (zI ((-1))))) (by omega) (by omega) (updi2 (if_neg h277).symm hre6) _ _ _ hP hD hS (lv_sub hl [1, 2, 0] rfl)
                                              · skip
                                                refine nv_iconst (pc := 280) (k := 1) hx hb dX1_setDegree_280 rfl ?_
                                                refine lv_goto (pc := 281) (tgt := 285) hx hb dX1_setDegree_281 (by decide) ?_
                                                refine nv_iast (pc := 285) hx hb hK hP hD hS 3 0 rfl rfl (by omega) (by decide) (ws' := (wM ad cI cL (P) (G) (n) ((phN n)) (ix) (hov) ((upd (rw6) (k6) (nI (1)))) (wk) (tu) (wa) (nx))) rfl dX1_setDegree_285 (fun H locs hP hD hS => ?_)
                                                refine lv_iinc (pc := 286) (v := nI ((k6 + 1))) (lv' := [(2, .int (nI ((k6 + 1)))), (0, .ref (ad 0)), (1, .int (nI (n)))]) hx hb dX1_setDegree_286 hl (k := 2) rfl (nI_inc _) (by decide) rfl (fun ls hl => ?_)
                                                refine lv_goto (pc := 289) (tgt := 261) hx hb dX1_setDegree_289 (by decide) ?_
                                                exact ih_261 ((k6 + 1)) ((upd (rw6) (k6) (nI (1)))) (by omega) (by omega) (updi2 (if_pos h277).symm hre6) _ _ _ hP hD hS (lv_sub hl [1, 2, 0] rfl)
                                        exact L261 _ (0) (rv) (Nat.lt_succ_self _) (by omega) (fun i b => by rw [if_neg (by omega)]; exact hre i b) _ _ _ hP hD hS (lv_sub hl [1, 2, 0] rfl)
                                      · skip
                                        refine lv_aload_n (pc := 242) hx hb dX1_setDegree_242 rfl (lv_at hl 0 rfl) ?_
                                        refine va_get (pc := 243) (D := dd) (ci := 1) (v := .ref (ad 3)) (C := RX1) (T := TX1) (N := 11) hx hb hts hin hown hK hP 0 rfl rfl 6 (by decide) (hts (.fieldLink RX1 17 "TurningSumsModel" "relation" "[I") (by decide +kernel)) (fun _ h9 => h9) rfl dX1_setDegree_243 ?_
                                        refine nv_iconst (pc := 246) (k := 0) hx hb dX1_setDegree_246 rfl ?_
                                        refine nv_iconst (pc := 247) (k := 1) hx hb dX1_setDegree_247 rfl ?_
                                        refine nv_iast (pc := 248) hx hb hK hP hD hS 3 0 rfl rfl (by omega) (by decide) (ws' := (wM ad cI cL (P) (G) (n) ((phN n)) (ix) (hov) ((upd (rv) (0) (nI (1)))) (wk) (tu) (wa) (nx))) rfl dX1_setDegree_248 (fun H locs hP hD hS => ?_)
                                        refine lv_aload_n (pc := 249) hx hb dX1_setDegree_249 rfl (lv_at hl 0 rfl) ?_
                                        refine va_get (pc := 250) (D := dd) (ci := 1) (v := .ref (ad 3)) (C := RX1) (T := TX1) (N := 11) hx hb hts hin hown hK hP 0 rfl rfl 6 (by decide) (hts (.fieldLink RX1 17 "TurningSumsModel" "relation" "[I") (by decide +kernel)) (fun _ h9 => h9) rfl dX1_setDegree_250 ?_
                                        refine nv_iconst (pc := 253) (k := 2) hx hb dX1_setDegree_253 rfl ?_
                                        refine lv_iconst (pc := 254) (v := zI (-1)) hx hb dX1_setDegree_254 rfl ?_
                                        refine nv_iast (pc := 255) hx hb hK hP hD hS 3 0 rfl rfl (by omega) (by decide) (ws' := (wM ad cI cL (P) (G) (n) ((phN n)) (ix) (hov) ((upd ((upd (rv) (0) (nI (1)))) (2) (zI ((-1))))) (wk) (tu) (wa) (nx))) rfl dX1_setDegree_255 (fun H locs hP hD hS => ?_)
                                        refine lv_goto (pc := 256) (tgt := 292) hx hb dX1_setDegree_256 (by decide) ?_
                                        refine lv_aload_n (pc := 292) hx hb dX1_setDegree_292 rfl (lv_at hl 0 rfl) ?_
                                        refine va_get (pc := 293) (D := dd) (ci := 1) (v := .ref (ad 3)) (C := RX1) (T := TX1) (N := 11) hx hb hts hin hown hK hP 0 rfl rfl 6 (by decide) (hts (.fieldLink RX1 17 "TurningSumsModel" "relation" "[I") (by decide +kernel)) (fun _ h9 => h9) rfl dX1_setDegree_293 ?_
                                        refine lv_aload_n (pc := 296) hx hb dX1_setDegree_296 rfl (lv_at hl 0 rfl) ?_
                                        refine va_get (pc := 297) (D := dd) (ci := 1) (v := .int (nI ((phN n)))) (C := RX1) (T := TX1) (N := 11) hx hb hts hin hown hK hP 0 rfl rfl 3 (by decide) (hts (.fieldLink RX1 55 "TurningSumsModel" "phi" "I") (by decide +kernel)) (fun _ h9 => h9) rfl dX1_setDegree_297 ?_
                                        refine nv_iconst (pc := 300) (k := 1) hx hb dX1_setDegree_300 rfl ?_
                                        refine nv_iast (pc := 301) hx hb hK hP hD hS 3 0 rfl rfl (by omega) (by decide) (ws' := (wM ad cI cL (P) (G) (n) ((phN n)) (ix) (hov) ((upd ((upd ((upd (rv) (0) (nI (1)))) (2) (zI ((-1))))) ((phN n)) (nI (1)))) (wk) (tu) (wa) (nx))) rfl dX1_setDegree_301 (fun H locs hP hD hS => ?_)
                                        exact hret _ _ _ _ (hov, (upd ((upd ((upd (rv) (0) (nI (1)))) (2) (zI ((-1))))) ((phN n)) (nI (1)))) (⟨hho, by first | (have e : n = 1 := (by omega); subst e; exact rl_1 hre) | (have e : n = 9 := (by omega); subst e; exact rl_9 hre) | (have e : n = 12 := (by omega); subst e; exact rl_12 hre) | exact rl_2 hre (by omega) | exact rl_3 hre3 (by omega) | exact rl_6 hre6 (by omega)⟩) hP hD hS dX1_setDegree_302
                                    · skip
                                      refine lv_aload_n (pc := 216) hx hb dX1_setDegree_216 rfl (lv_at hl 0 rfl) ?_
                                      refine va_get (pc := 217) (D := dd) (ci := 1) (v := .ref (ad 3)) (C := RX1) (T := TX1) (N := 11) hx hb hts hin hown hK hP 0 rfl rfl 6 (by decide) (hts (.fieldLink RX1 17 "TurningSumsModel" "relation" "[I") (by decide +kernel)) (fun _ h9 => h9) rfl dX1_setDegree_217 ?_
                                      refine nv_iconst (pc := 220) (k := 0) hx hb dX1_setDegree_220 rfl ?_
                                      refine nv_iconst (pc := 221) (k := 1) hx hb dX1_setDegree_221 rfl ?_
                                      refine nv_iast (pc := 222) hx hb hK hP hD hS 3 0 rfl rfl (by omega) (by decide) (ws' := (wM ad cI cL (P) (G) (n) ((phN n)) (ix) (hov) ((upd (rv) (0) (nI (1)))) (wk) (tu) (wa) (nx))) rfl dX1_setDegree_222 (fun H locs hP hD hS => ?_)
                                      refine lv_aload_n (pc := 223) hx hb dX1_setDegree_223 rfl (lv_at hl 0 rfl) ?_
                                      refine va_get (pc := 224) (D := dd) (ci := 1) (v := .ref (ad 3)) (C := RX1) (T := TX1) (N := 11) hx hb hts hin hown hK hP 0 rfl rfl 6 (by decide) (hts (.fieldLink RX1 17 "TurningSumsModel" "relation" "[I") (by decide +kernel)) (fun _ h9 => h9) rfl dX1_setDegree_224 ?_
                                      refine nv_iconst (pc := 227) (k := 3) hx hb dX1_setDegree_227 rfl ?_
                                      refine nv_iconst (pc := 228) (k := 1) hx hb dX1_setDegree_228 rfl ?_
                                      refine nv_iast (pc := 229) hx hb hK hP hD hS 3 0 rfl rfl (by omega) (by decide) (ws' := (wM ad cI cL (P) (G) (n) ((phN n)) (ix) (hov) ((upd ((upd (rv) (0) (nI (1)))) (3) (nI (1)))) (wk) (tu) (wa) (nx))) rfl dX1_setDegree_229 (fun H locs hP hD hS => ?_)
                                      refine lv_goto (pc := 230) (tgt := 292) hx hb dX1_setDegree_230 (by decide) ?_
                                      refine lv_aload_n (pc := 292) hx hb dX1_setDegree_292 rfl (lv_at hl 0 rfl) ?_
                                      refine va_get (pc := 293) (D := dd) (ci := 1) (v := .ref (ad 3)) (C := RX1) (T := TX1) (N := 11) hx hb hts hin hown hK hP 0 rfl rfl 6 (by decide) (hts (.fieldLink RX1 17 "TurningSumsModel" "relation" "[I") (by decide +kernel)) (fun _ h9 => h9) rfl dX1_setDegree_293 ?_
                                      refine lv_aload_n (pc := 296) hx hb dX1_setDegree_296 rfl (lv_at hl 0 rfl) ?_
                                      refine va_get (pc := 297) (D := dd) (ci := 1) (v := .int (nI ((phN n)))) (C := RX1) (T := TX1) (N := 11) hx hb hts hin hown hK hP 0 rfl rfl 3 (by decide) (hts (.fieldLink RX1 55 "TurningSumsModel" "phi" "I") (by decide +kernel)) (fun _ h9 => h9) rfl dX1_setDegree_297 ?_
                                      refine nv_iconst (pc := 300) (k := 1) hx hb dX1_setDegree_300 rfl ?_
                                      refine nv_iast (pc := 301) hx hb hK hP hD hS 3 0 rfl rfl (by omega) (by decide) (ws' := (wM ad cI cL (P) (G) (n) ((phN n)) (ix) (hov) ((upd ((upd ((upd (rv) (0) (nI (1)))) (3) (nI (1)))) ((phN n)) (nI (1)))) (wk) (tu) (wa) (nx))) rfl dX1_setDegree_301 (fun H locs hP hD hS => ?_)
                                      exact hret _ _ _ _ (hov, (upd ((upd ((upd (rv) (0) (nI (1)))) (3) (nI (1)))) ((phN n)) (nI (1)))) (⟨hho, by first | (have e : n = 1 := (by omega); subst e; exact rl_1 hre) | (have e : n = 9 := (by omega); subst e; exact rl_9 hre) | (have e : n = 12 := (by omega); subst e; exact rl_12 hre) | exact rl_2 hre (by omega) | exact rl_3 hre3 (by omega) | exact rl_6 hre6 (by omega)⟩) hP hD hS dX1_setDegree_302
                                  · skip
                                    refine nv_iconst (pc := 181) (k := 0) hx hb dX1_setDegree_181 rfl ?_
                                    refine lv_istore_n (pc := 182) (lv' := [(2, .int (nI (0))), (0, .ref (ad 0)), (1, .int (nI (n)))]) hx hb dX1_setDegree_182 rfl hl (by decide) rfl (fun ls hl => ?_)
                                    have L183 : ∀ (n9_183 : Nat), ∀ (k3 : Nat) (rw3 : Nat → Int32), 14 - k3 < n9_183 → (k3 ≤ n) → (∀ i, i < 13 → rw3 i = if i < k3 then nI 1 else nI 0) → ∀ (H : Heap) (locs : List Loc) (ls : Array Slot), va_P dd vwCl (wM ad cI cL (P) (G) (n) ((phN n)) (ix) (hov) (rw3) (wk) (tu) (wa) (nx)) H → va_D A (wM ad cI cL (P) (G) (n) ((phN n)) (ix) (hov) (rw3) (wk) (tu) (wa) (nx)) → va_S A s.heap H locs → lv_has ls 3 [(0, .ref (ad 0)), (1, .int (nI (n))), (2, .int (nI (k3)))] → W p l e ({ frames := 1, cells := 0, slots := 0, locals := 24 } : Room) s m args below meth c H locs 0 0 Q (F0 m 183 ls []) := by
                                      intro n9_183
                                      induction n9_183 with
                                      | zero => intro k3 rw3 hm; exact absurd hm (Nat.not_lt_zero _)
                                      | succ n9_183 ih_183 =>
                                        intro k3 rw3 hm_183 hk3 hre3 H locs ls hP hD hS hl
                                        refine lv_iload_n (pc := 183) hx hb dX1_setDegree_183 rfl (lv_at hl 2 rfl) ?_
                                        refine lv_aload_n (pc := 184) hx hb dX1_setDegree_184 rfl (lv_at hl 0 rfl) ?_
                                        refine va_get (pc := 185) (D := dd) (ci := 1) (v := .int (nI (n))) (C := RX1) (T := TX1) (N := 11) hx hb hts hin hown hK hP 0 rfl rfl 2 (by decide) (hts (.fieldLink RX1 52 "TurningSumsModel" "d" "I") (by decide +kernel)) (fun _ h9 => h9) rfl dX1_setDegree_185 ?_
                                        refine nv_icmp_ge (pc := 188) (tgt := 204) hx hb (a := k3) (b := n) (by omega) (by omega) dX1_setDegree_188 (by decide) (fun h188 => ?_) (fun h188 => ?_)
                                        · skip
                                          have hre3 : ∀ i, i < 13 → rw3 i = if i < n then nI 1 else nI 0 := by rw [show k3 = n by omega] at hre3; exact hre3
                                          refine lv_goto (pc := 204) (tgt := 292) hx hb dX1_setDegree_204 (by decide) ?_
                                          refine lv_aload_n (pc := 292) hx hb dX1_setDegree_292 rfl (lv_at hl 0 rfl) ?_
                                          refine va_get (pc := 293) (D := dd) (ci := 1) (v := .ref (ad 3)) (C := RX1) (T := TX1) (N := 11) hx hb hts hin hown hK hP 0 rfl rfl 6 (by decide) (hts (.fieldLink RX1 17 "TurningSumsModel" "relation" "[I") (by decide +kernel)) (fun _ h9 => h9) rfl dX1_setDegree_293 ?_
                                          refine lv_aload_n (pc := 296) hx hb dX1_setDegree_296 rfl (lv_at hl 0 rfl) ?_
                                          refine va_get (pc := 297) (D := dd) (ci := 1) (v := .int (nI ((phN n)))) (C := RX1) (T := TX1) (N := 11) hx hb hts hin hown hK hP 0 rfl rfl 3 (by decide) (hts (.fieldLink RX1 55 "TurningSumsModel" "phi" "I") (by decide +kernel)) (fun _ h9 => h9) rfl dX1_setDegree_297 ?_
                                          refine nv_iconst (pc := 300) (k := 1) hx hb dX1_setDegree_300 rfl ?_
                                          refine nv_iast (pc := 301) hx hb hK hP hD hS 3 0 rfl rfl (by omega) (by decide) (ws' := (wM ad cI cL (P) (G) (n) ((phN n)) (ix) (hov) ((upd (rw3) ((phN n)) (nI (1)))) (wk) (tu) (wa) (nx))) rfl dX1_setDegree_301 (fun H locs hP hD hS => ?_)
                                          exact hret _ _ _ _ (hov, (upd (rw3) ((phN n)) (nI (1)))) (⟨hho, by first | (have e : n = 1 := (by omega); subst e; exact rl_1 hre) | (have e : n = 9 := (by omega); subst e; exact rl_9 hre) | (have e : n = 12 := (by omega); subst e; exact rl_12 hre) | exact rl_2 hre (by omega) | exact rl_3 hre3 (by omega) | exact rl_6 hre6 (by omega)⟩) hP hD hS dX1_setDegree_302
                                        · skip
                                          refine lv_aload_n (pc := 191) hx hb dX1_setDegree_191 rfl (lv_at hl 0 rfl) ?_
                                          refine va_get (pc := 192) (D := dd) (ci := 1) (v := .ref (ad 3)) (C := RX1) (T := TX1) (N := 11) hx hb hts hin hown hK hP 0 rfl rfl 6 (by decide) (hts (.fieldLink RX1 17 "TurningSumsModel" "relation" "[I") (by decide +kernel)) (fun _ h9 => h9) rfl dX1_setDegree_192 ?_
                                          refine lv_iload_n (pc := 195) hx hb dX1_setDegree_195 rfl (lv_at hl 2 rfl) ?_
                                          refine nv_iconst (pc := 196) (k := 1) hx hb dX1_setDegree_196 rfl ?_
                                          refine nv_iast (pc := 197) hx hb hK hP hD hS 3 0 rfl rfl (by omega) (by decide) (ws' := (wM ad cI cL (P) (G) (n) ((phN n)) (ix) (hov) ((upd (rw3) (k3) (nI (1)))) (wk) (tu) (wa) (nx))) rfl dX1_setDegree_197 (fun H locs hP hD hS => ?_)
                                          refine lv_iinc (pc := 198) (v := nI ((k3 + 1))) (lv' := [(2, .int (nI ((k3 + 1)))), (0, .ref (ad 0)), (1, .int (nI (n)))]) hx hb dX1_setDegree_198 hl (k := 2) rfl (nI_inc _) (by decide) rfl (fun ls hl => ?_)
                                          refine lv_goto (pc := 201) (tgt := 183) hx hb dX1_setDegree_201 (by decide) ?_
                                          exact ih_183 ((k3 + 1)) ((upd (rw3) (k3) (nI (1)))) (by omega) (by omega) (updi hre3) _ _ _ hP hD hS (lv_sub hl [1, 2, 0] rfl)
                                    exact L183 _ (0) (rv) (Nat.lt_succ_self _) (by omega) (fun i b => by rw [if_neg (by omega)]; exact hre i b) _ _ _ hP hD hS (lv_sub hl [1, 2, 0] rfl)
                          · skip
                            refine lv_aload_n (pc := 137) hx hb dX1_setDegree_137 rfl (lv_at hl 0 rfl) ?_
                            refine va_get (pc := 138) (D := dd) (ci := 1) (v := .ref (ad 3)) (C := RX1) (T := TX1) (N := 11) hx hb hts hin hown hK hP 0 rfl rfl 6 (by decide) (hts (.fieldLink RX1 17 "TurningSumsModel" "relation" "[I") (by decide +kernel)) (fun _ h9 => h9) rfl dX1_setDegree_138 ?_
                            refine nv_iconst (pc := 141) (k := 0) hx hb dX1_setDegree_141 rfl ?_
                            refine nv_iconst (pc := 142) (k := 1) hx hb dX1_setDegree_142 rfl ?_
                            refine nv_iast (pc := 143) hx hb hK hP hD hS 3 0 rfl rfl (by omega) (by decide) (ws' := (wM ad cI cL (P) (G) (n) ((phN n)) (ix) (hov) ((upd (rv) (0) (nI (1)))) (wk) (tu) (wa) (nx))) rfl dX1_setDegree_143 (fun H locs hP hD hS => ?_)
                            refine lv_goto (pc := 144) (tgt := 292) hx hb dX1_setDegree_144 (by decide) ?_
                            refine lv_aload_n (pc := 292) hx hb dX1_setDegree_292 rfl (lv_at hl 0 rfl) ?_
                            refine va_get (pc := 293) (D := dd) (ci := 1) (v := .ref (ad 3)) (C := RX1) (T := TX1) (N := 11) hx hb hts hin hown hK hP 0 rfl rfl 6 (by decide) (hts (.fieldLink RX1 17 "TurningSumsModel" "relation" "[I") (by decide +kernel)) (fun _ h9 => h9) rfl dX1_setDegree_293 ?_
                            refine lv_aload_n (pc := 296) hx hb dX1_setDegree_296 rfl (lv_at hl 0 rfl) ?_
                            refine va_get (pc := 297) (D := dd) (ci := 1) (v := .int (nI ((phN n)))) (C := RX1) (T := TX1) (N := 11) hx hb hts hin hown hK hP 0 rfl rfl 3 (by decide) (hts (.fieldLink RX1 55 "TurningSumsModel" "phi" "I") (by decide +kernel)) (fun _ h9 => h9) rfl dX1_setDegree_297 ?_
                            refine nv_iconst (pc := 300) (k := 1) hx hb dX1_setDegree_300 rfl ?_
                            refine nv_iast (pc := 301) hx hb hK hP hD hS 3 0 rfl rfl (by omega) (by decide) (ws' := (wM ad cI cL (P) (G) (n) ((phN n)) (ix) (hov) ((upd ((upd (rv) (0) (nI (1)))) ((phN n)) (nI (1)))) (wk) (tu) (wa) (nx))) rfl dX1_setDegree_301 (fun H locs hP hD hS => ?_)
                            exact hret _ _ _ _ (hov, (upd ((upd (rv) (0) (nI (1)))) ((phN n)) (nI (1)))) (⟨hho, by first | (have e : n = 1 := (by omega); subst e; exact rl_1 hre) | (have e : n = 9 := (by omega); subst e; exact rl_9 hre) | (have e : n = 12 := (by omega); subst e; exact rl_12 hre) | exact rl_2 hre (by omega) | exact rl_3 hre3 (by omega) | exact rl_6 hre6 (by omega)⟩) hP hD hS dX1_setDegree_302
                    · skip
                      refine lv_aload_n (pc := 102) hx hb dX1_setDegree_102 rfl (lv_at hl 0 rfl) ?_
                      refine va_get (pc := 103) (D := dd) (ci := 1) (v := .ref (ad 3)) (C := RX1) (T := TX1) (N := 11) hx hb hts hin hown hK hP 0 rfl rfl 6 (by decide) (hts (.fieldLink RX1 17 "TurningSumsModel" "relation" "[I") (by decide +kernel)) (fun _ h9 => h9) rfl dX1_setDegree_103 ?_
                      refine nv_iconst (pc := 106) (k := 0) hx hb dX1_setDegree_106 rfl ?_
                      refine lv_iconst (pc := 107) (v := zI (-1)) hx hb dX1_setDegree_107 rfl ?_
                      refine nv_iast (pc := 108) hx hb hK hP hD hS 3 0 rfl rfl (by omega) (by decide) (ws' := (wM ad cI cL (P) (G) (n) ((phN n)) (ix) (hov) ((upd (rv) (0) (zI ((-1))))) (wk) (tu) (wa) (nx))) rfl dX1_setDegree_108 (fun H locs hP hD hS => ?_)
                      refine lv_goto (pc := 109) (tgt := 292) hx hb dX1_setDegree_109 (by decide) ?_
                      refine lv_aload_n (pc := 292) hx hb dX1_setDegree_292 rfl (lv_at hl 0 rfl) ?_
                      refine va_get (pc := 293) (D := dd) (ci := 1) (v := .ref (ad 3)) (C := RX1) (T := TX1) (N := 11) hx hb hts hin hown hK hP 0 rfl rfl 6 (by decide) (hts (.fieldLink RX1 17 "TurningSumsModel" "relation" "[I") (by decide +kernel)) (fun _ h9 => h9) rfl dX1_setDegree_293 ?_
                      refine lv_aload_n (pc := 296) hx hb dX1_setDegree_296 rfl (lv_at hl 0 rfl) ?_
                      refine va_get (pc := 297) (D := dd) (ci := 1) (v := .int (nI ((phN n)))) (C := RX1) (T := TX1) (N := 11) hx hb hts hin hown hK hP 0 rfl rfl 3 (by decide) (hts (.fieldLink RX1 55 "TurningSumsModel" "phi" "I") (by decide +kernel)) (fun _ h9 => h9) rfl dX1_setDegree_297 ?_
                      refine nv_iconst (pc := 300) (k := 1) hx hb dX1_setDegree_300 rfl ?_
                      refine nv_iast (pc := 301) hx hb hK hP hD hS 3 0 rfl rfl (by omega) (by decide) (ws' := (wM ad cI cL (P) (G) (n) ((phN n)) (ix) (hov) ((upd ((upd (rv) (0) (zI ((-1))))) ((phN n)) (nI (1)))) (wk) (tu) (wa) (nx))) rfl dX1_setDegree_301 (fun H locs hP hD hS => ?_)
                      exact hret _ _ _ _ (hov, (upd ((upd (rv) (0) (zI ((-1))))) ((phN n)) (nI (1)))) (⟨hho, by first | (have e : n = 1 := (by omega); subst e; exact rl_1 hre) | (have e : n = 9 := (by omega); subst e; exact rl_9 hre) | (have e : n = 12 := (by omega); subst e; exact rl_12 hre) | exact rl_2 hre (by omega) | exact rl_3 hre3 (by omega) | exact rl_6 hre6 (by omega)⟩) hP hD hS dX1_setDegree_302
                  · skip
                    refine lv_aload_n (pc := 81) hx hb dX1_setDegree_81 rfl (lv_at hl 0 rfl) ?_
                    refine va_get (pc := 82) (D := dd) (ci := 1) (v := .ref (ad 3)) (C := RX1) (T := TX1) (N := 11) hx hb hts hin hown hK hP 0 rfl rfl 6 (by decide) (hts (.fieldLink RX1 17 "TurningSumsModel" "relation" "[I") (by decide +kernel)) (fun _ h9 => h9) rfl dX1_setDegree_82 ?_
                    refine lv_iload_n (pc := 85) hx hb dX1_setDegree_85 rfl (lv_at hl 2 rfl) ?_
                    refine nv_iconst (pc := 86) (k := 0) hx hb dX1_setDegree_86 rfl ?_
                    refine nv_iast (pc := 87) hx hb hK hP hD hS 3 0 rfl rfl (by omega) (by decide) (ws' := (wM ad cI cL (P) (G) (n) ((phN n)) (ix) (hov) ((upd (rv) (k2) (nI (0)))) (wk) (tu) (wa) (nx))) rfl dX1_setDegree_87 (fun H locs hP hD hS => ?_)
                    refine lv_iinc (pc := 88) (v := nI ((k2 + 1))) (lv' := [(2, .int (nI ((k2 + 1)))), (0, .ref (ad 0)), (1, .int (nI (n)))]) hx hb dX1_setDegree_88 hl (k := 2) rfl (nI_inc _) (by decide) rfl (fun ls hl => ?_)
                    refine lv_goto (pc := 91) (tgt := 75) hx hb dX1_setDegree_91 (by decide) ?_
                    exact ih_75 ((k2 + 1)) ((upd (rv) (k2) (nI (0)))) (by omega) (by omega) (updc hre) _ _ _ hP hD hS (lv_sub hl [1, 2, 0] rfl)
              exact L75 _ (0) (re) (Nat.lt_succ_self _) (by omega) (fun a b => by omega) _ _ _ hP hD hS (lv_sub hl [1, 2, 0] rfl)
            · skip
              refine lv_aload_n (pc := 60) hx hb dX1_setDegree_60 rfl (lv_at hl 0 rfl) ?_
              refine va_get (pc := 61) (D := dd) (ci := 1) (v := .ref (ad 2)) (C := RX1) (T := TX1) (N := 11) hx hb hts hin hown hK hP 0 rfl rfl 5 (by decide) (hts (.fieldLink RX1 13 "TurningSumsModel" "hold" "[J") (by decide +kernel)) (fun _ h9 => h9) rfl dX1_setDegree_61 ?_
              refine lv_iload_n (pc := 64) hx hb dX1_setDegree_64 rfl (lv_at hl 2 rfl) ?_
              refine lv_lconst (pc := 65) (v := zL 0) hx hb dX1_setDegree_65 (by decide) ?_
              refine nv_last (pc := 66) hx hb hK hP hD hS 2 1 rfl rfl (by omega) (by decide) (ws' := (wM ad cI cL (P) (G) (n) ((phN n)) (ix) ((vp_updL (hov) (k) (zL 0))) (re) (wk) (tu) (wa) (nx))) rfl dX1_setDegree_66 (fun H locs hP hD hS => ?_)
              refine lv_iinc (pc := 67) (v := nI ((k + 1))) (lv' := [(2, .int (nI ((k + 1)))), (0, .ref (ad 0)), (1, .int (nI (n)))]) hx hb dX1_setDegree_67 hl (k := 2) rfl (nI_inc _) (by decide) rfl (fun ls hl => ?_)
              refine lv_goto (pc := 70) (tgt := 54) hx hb dX1_setDegree_70 (by decide) ?_
              exact ih_54 ((k + 1)) ((vp_updL (hov) (k) (zL 0))) (by omega) (by omega) (updcL hho) _ _ _ hP hD hS (lv_sub hl [1, 2, 0] rfl)
        exact L54 _ (0) (ho) (Nat.lt_succ_self _) (by omega) (fun a b => by omega) _ _ _ hP hD hS (lv_sub hl [1, 2, 0] rfl)
      · skip
        refine lv_aload_n (pc := 20) hx hb dX1_setDegree_20 rfl (lv_at hl 0 rfl) ?_
        refine lv_dup (pc := 21) hx hb dX1_setDegree_21 rfl ?_
        refine va_get (pc := 22) (D := dd) (ci := 1) (v := .int (nI ((phC n j)))) (C := RX1) (T := TX1) (N := 11) hx hb hts hin hown hK hP 0 rfl rfl 3 (by decide) (hts (.fieldLink RX1 55 "TurningSumsModel" "phi" "I") (by decide +kernel)) (fun _ h9 => h9) rfl dX1_setDegree_22 ?_
        refine lv_iload_n (pc := 25) hx hb dX1_setDegree_25 rfl (lv_at hl 2 rfl) ?_
        refine lv_aload_n (pc := 26) hx hb dX1_setDegree_26 rfl (lv_at hl 0 rfl) ?_
        refine va_get (pc := 27) (D := dd) (ci := 1) (v := .int (nI (n))) (C := RX1) (T := TX1) (N := 11) hx hb hts hin hown hK hP 0 rfl rfl 2 (by decide) (hts (.fieldLink RX1 52 "TurningSumsModel" "d" "I") (by decide +kernel)) (fun _ h9 => h9) rfl dX1_setDegree_27 ?_
        refine CTi_S0 (pc := 30) am_no_ok (As := [.int (nI ((j + 1))), .int (nI (n))]) (rest := [.int (nI ((phC n j))), .ref (ad 0)]) ⟨hx, hb, hml, hown, hts⟩ (c_X1_common l dd (by omega) (by omega)) (va_cwS 2 hts gX1_setDegree_X1_common rfl rfl rfl (by decide +kernel) ⟨Nat.le_of_ble_eq_true rfl, Nat.le_of_ble_eq_true rfl⟩) hK hP hD hS hA hX rfl hl.1 rfl (Nat.le_of_ble_eq_true rfl) ⟨Nat.zero_le _, Nat.zero_le _⟩ dX1_setDegree_30 (fun r u H locs hw hP hD hS => ?_)
        try dsimp only at hw
        subst hw
        refine nv_iconst (pc := 33) (k := 1) hx hb dX1_setDegree_33 rfl ?_
        refine nv_icmp_ne (pc := 34) (tgt := 41) hx hb (a := (Nat.gcd ((j + 1)) (n))) (b := 1) (by omega) (by omega) dX1_setDegree_34 (by decide) (fun h34 => ?_) (fun h34 => ?_)
        · skip
          refine nv_iconst (pc := 41) (k := 0) hx hb dX1_setDegree_41 rfl ?_
          refine nv_iadd (pc := 42) hx hb dX1_setDegree_42 ?_
          refine va_put (pc := 43) (D := dd) (ci := 1) (v := .int (nI (((phC n j) + 0)))) (ty := .int) (C := RX1) (T := TX1) (N := 11) hx hb hts hin tyX1 tyX1_ok nmX1 hown hK hP hD hS 0 rfl rfl 3 (by decide) (hts (.fieldLink RX1 55 "TurningSumsModel" "phi" "I") (by decide +kernel)) (fun _ h9 => h9) rfl (by decide +kernel) rfl rfl (Nat.le_of_ble_eq_true rfl) dX1_setDegree_43 (fun H locs hP hD hS => ?_)
          have hP : va_P dd vwCl (wM ad cI cL (P) (G) (n) (((phC n j) + 0)) (ix) (ho) (re) (wk) (tu) (wa) (nx)) H := hP
          have hD : va_D A (wM ad cI cL (P) (G) (n) (((phC n j) + 0)) (ix) (ho) (re) (wk) (tu) (wa) (nx)) := hD
          refine lv_iinc (pc := 46) (v := nI (((j + 1) + 1))) (lv' := [(2, .int (nI (((j + 1) + 1)))), (0, .ref (ad 0)), (1, .int (nI (n)))]) hx hb dX1_setDegree_46 hl (k := 2) rfl (nI_inc _) (by decide) rfl (fun ls hl => ?_)
          refine lv_goto (pc := 49) (tgt := 12) hx hb dX1_setDegree_49 (by decide) ?_
          have e9 : ((phC n j) + 0) = (phC n (j + 1)) := ph_g0 h34
          rw [e9] at hP hD
          have hP : va_P dd vwCl (wM ad cI cL (P) (G) (n) ((phC n (j + 1))) (ix) (ho) (re) (wk) (tu) (wa) (nx)) H := hP
          have hD : va_D A (wM ad cI cL (P) (G) (n) ((phC n (j + 1))) (ix) (ho) (re) (wk) (tu) (wa) (nx)) := hD
          exact ih_12 (j + 1) (by omega) (by omega) _ _ _ hP hD hS (lv_sub hl [1, 2, 0] rfl)
        · skip
          refine nv_iconst (pc := 37) (k := 1) hx hb dX1_setDegree_37 rfl ?_
          refine lv_goto (pc := 38) (tgt := 42) hx hb dX1_setDegree_38 (by decide) ?_
          refine nv_iadd (pc := 42) hx hb dX1_setDegree_42 ?_
          refine va_put (pc := 43) (D := dd) (ci := 1) (v := .int (nI (((phC n j) + 1)))) (ty := .int) (C := RX1) (T := TX1) (N := 11) hx hb hts hin tyX1 tyX1_ok nmX1 hown hK hP hD hS 0 rfl rfl 3 (by decide) (hts (.fieldLink RX1 55 "TurningSumsModel" "phi" "I") (by decide +kernel)) (fun _ h9 => h9) rfl (by decide +kernel) rfl rfl (Nat.le_of_ble_eq_true rfl) dX1_setDegree_43 (fun H locs hP hD hS => ?_)
          have hP : va_P dd vwCl (wM ad cI cL (P) (G) (n) (((phC n j) + 1)) (ix) (ho) (re) (wk) (tu) (wa) (nx)) H := hP
          have hD : va_D A (wM ad cI cL (P) (G) (n) (((phC n j) + 1)) (ix) (ho) (re) (wk) (tu) (wa) (nx)) := hD
          refine lv_iinc (pc := 46) (v := nI (((j + 1) + 1))) (lv' := [(2, .int (nI (((j + 1) + 1)))), (0, .ref (ad 0)), (1, .int (nI (n)))]) hx hb dX1_setDegree_46 hl (k := 2) rfl (nI_inc _) (by decide) rfl (fun ls hl => ?_)
          refine lv_goto (pc := 49) (tgt := 12) hx hb dX1_setDegree_49 (by decide) ?_
          have e9 : ((phC n j) + 1) = (phC n (j + 1)) := ph_g1 (by omega)
          rw [e9] at hP hD
          have hP : va_P dd vwCl (wM ad cI cL (P) (G) (n) ((phC n (j + 1))) (ix) (ho) (re) (wk) (tu) (wa) (nx)) H := hP
          have hD : va_D A (wM ad cI cL (P) (G) (n) ((phC n (j + 1))) (ix) (ho) (re) (wk) (tu) (wa) (nx)) := hD
          exact ih_12 (j + 1) (by omega) (by omega) _ _ _ hP hD hS (lv_sub hl [1, 2, 0] rfl)
  exact L12 _ (0) (Nat.lt_succ_self _) (by omega) _ _ _ hP hD hS (lv_sub hl [1, 2, 0] rfl)
set_option maxHeartbeats 4000000 in
set_option maxRecDepth 100000 in
theorem c_X1_begin (l : Launch) (dd : va_G) {ad : Nat → Nat} {cI cL cQ : ClassId}  {P : Nat} {G : Nat} {D : Nat} {F : Nat} {ix : Nat → Int32} {ho : Nat → Int64} {re : Nat → Int32} {wk : Nat → Int64} {tu : Nat → Int64} {wa : Nat → Int64} {nx : Nat → Int64} {q : Nat} (hq : okP q) : CTv l yX1_begin wsX1_begin ({ frames := 2, cells := 0, slots := 0, locals := 46 } : Room) dd (tysA cI cL cQ) (am_no) [.ref (ad 0), .int (nI (q))] (wM ad cI cL (P) (G) (D) (F) (ix) (ho) (re) (wk) (tu) (wa) (nx)) (fun (u : (Nat → Int32) × (Nat → Int64) × (Nat → Int32)) => (∀ y, 1 ≤ y → y < q → u.1 y = nI (ixN q y)) ∧ (∀ k, k < 72 → u.2.1 k = zL 0) ∧ ∀ i, i < 13 → u.2.2 i = zI (relM 2 i)) (fun (u : (Nat → Int32) × (Nat → Int64) × (Nat → Int32)) => (wM ad cI cL (q) ((rootN q)) (2) ((phN 2)) (u.1) (u.2.1) (u.2.2) (wk) (tu) (wa) (nx))) := by
  refine CTv_of (cc := cX1_begin) (maxL := 4) (by decide +kernel) rfl (Nat.le_of_ble_eq_true rfl) ?_
  intro p e s m args below meth c A Q ls H locs hx hb hts hown hml hP hK hD hS hA hX hl hret
  have hin : ∀ w ∈ wsX10, w ∈ wsX1_begin := by decide +kernel
  have hl : lv_has ls 4 [(0, .ref (ad 0)), (1, .int (nI (q)))] := hl
  obtain ⟨o1, o2, o3, o4, o5, o6⟩ := id hq
  refine lv_aload_n (pc := 0) hx hb dX1_begin_0 rfl (lv_at hl 0 rfl) ?_
  refine lv_iload_n (pc := 1) hx hb dX1_begin_1 rfl (lv_at hl 1 rfl) ?_
  refine va_put (pc := 2) (D := dd) (ci := 1) (v := .int (nI (q))) (ty := .int) (C := RX1) (T := TX1) (N := 11) hx hb hts hin tyX1 tyX1_ok nmX1 hown hK hP hD hS 0 rfl rfl 0 (by decide) (hts (.fieldLink RX1 42 "TurningSumsModel" "p" "I") (by decide +kernel)) (fun _ h9 => h9) rfl (by decide +kernel) rfl rfl (Nat.le_of_ble_eq_true rfl) dX1_begin_2 (fun H locs hP hD hS => ?_)
  have hP : va_P dd vwCl (wM ad cI cL (q) (G) (D) (F) (ix) (ho) (re) (wk) (tu) (wa) (nx)) H := hP
  have hD : va_D A (wM ad cI cL (q) (G) (D) (F) (ix) (ho) (re) (wk) (tu) (wa) (nx)) := hD
  refine lv_aload_n (pc := 5) hx hb dX1_begin_5 rfl (lv_at hl 0 rfl) ?_
  refine nv_iconst (pc := 6) (k := 1) hx hb dX1_begin_6 rfl ?_
  refine va_put (pc := 7) (D := dd) (ci := 1) (v := .int (nI (1))) (ty := .int) (C := RX1) (T := TX1) (N := 11) hx hb hts hin tyX1 tyX1_ok nmX1 hown hK hP hD hS 0 rfl rfl 1 (by decide) (hts (.fieldLink RX1 46 "TurningSumsModel" "root" "I") (by decide +kernel)) (fun _ h9 => h9) rfl (by decide +kernel) rfl rfl (Nat.le_of_ble_eq_true rfl) dX1_begin_7 (fun H locs hP hD hS => ?_)
  have hP : va_P dd vwCl (wM ad cI cL (q) (1) (D) (F) (ix) (ho) (re) (wk) (tu) (wa) (nx)) H := hP
  have hD : va_D A (wM ad cI cL (q) (1) (D) (F) (ix) (ho) (re) (wk) (tu) (wa) (nx)) := hD
  refine nv_iconst (pc := 10) (k := 0) hx hb dX1_begin_10 rfl ?_
  refine lv_istore_n (pc := 11) (lv' := [(2, .int (nI (0))), (0, .ref (ad 0)), (1, .int (nI (q)))]) hx hb dX1_begin_11 rfl hl (by decide) rfl (fun ls hl => ?_)
  have L12 : ∀ (n9_12 : Nat), ∀ (f : Nat) (g : Nat) (ixv : Nat → Int32), rootN q + 1 - g < n9_12 → (1 ≤ g ∧ g ≤ rootN q ∧ f ≤ q - 1) → (g < rootN q → f < q - 1) → (g = rootN q → f = q - 1 ∧ ∀ y, 1 ≤ y → y < q → ixv y = nI (ixN q y)) → ∀ (H : Heap) (locs : List Loc) (ls : Array Slot), va_P dd vwCl (wM ad cI cL (q) (g) (D) (F) (ixv) (ho) (re) (wk) (tu) (wa) (nx)) H → va_D A (wM ad cI cL (q) (g) (D) (F) (ixv) (ho) (re) (wk) (tu) (wa) (nx)) → va_S A s.heap H locs → lv_has ls 4 [(0, .ref (ad 0)), (1, .int (nI (q))), (2, .int (nI (f)))] → W p l e ({ frames := 2, cells := 0, slots := 0, locals := 46 } : Room) s m args below meth c H locs 0 0 Q (F0 m 12 ls []) := by
    intro n9_12
    induction n9_12 with
    | zero => intro f g ixv hm; exact absurd hm (Nat.not_lt_zero _)
    | succ n9_12 ih_12 =>
      intro f g ixv hm_12 hg hf hG H locs ls hP hD hS hl
      refine lv_iload_n (pc := 12) hx hb dX1_begin_12 rfl (lv_at hl 2 rfl) ?_
      refine lv_aload_n (pc := 13) hx hb dX1_begin_13 rfl (lv_at hl 0 rfl) ?_
      refine va_get (pc := 14) (D := dd) (ci := 1) (v := .int (nI (q))) (C := RX1) (T := TX1) (N := 11) hx hb hts hin hown hK hP 0 rfl rfl 0 (by decide) (hts (.fieldLink RX1 42 "TurningSumsModel" "p" "I") (by decide +kernel)) (fun _ h9 => h9) rfl dX1_begin_14 ?_
      refine nv_iconst (pc := 17) (k := 1) hx hb dX1_begin_17 rfl ?_
      refine nv_isub (pc := 18) hx hb (by omega) dX1_begin_18 ?_
      refine nv_icmp_ge (pc := 19) (tgt := 96) hx hb (a := f) (b := (q - 1)) (by omega) (by omega) dX1_begin_19 (by decide) (fun h19 => ?_) (fun h19 => ?_)
      · skip
        have e8 : g = rootN q := (by have := hf; omega)
        have e9 : g = (rootN q) := e8
        rw [e9] at hP hD
        have hP : va_P dd vwCl (wM ad cI cL (q) ((rootN q)) (D) (F) (ixv) (ho) (re) (wk) (tu) (wa) (nx)) H := hP
        have hD : va_D A (wM ad cI cL (q) ((rootN q)) (D) (F) (ixv) (ho) (re) (wk) (tu) (wa) (nx)) := hD
        refine lv_aload_n (pc := 96) hx hb dX1_begin_96 rfl (lv_at hl 0 rfl) ?_
        refine nv_iconst (pc := 97) (k := 2) hx hb dX1_begin_97 rfl ?_
        refine CTv_Vw (pc := 98) am_no_ok (As := [.int (nI (2))]) (rest := []) ⟨hx, hb, hml, hown, hts⟩ (c_X1_setDegree l dd (by omega) (by omega)) (cwV 1 hts gX1_begin_X1_setDegree rfl rfl rfl (by decide +kernel) ⟨Nat.le_of_ble_eq_true rfl, Nat.le_of_ble_eq_true rfl⟩) hK hP hD hS hA hX hK 0 1 rfl rfl rfl rfl hl.1 rfl (Nat.le_of_ble_eq_true rfl) ⟨Nat.zero_le _, Nat.zero_le _⟩ dX1_begin_98 (fun u H locs hw hP hD hS => ?_)
        try dsimp only at hw
        obtain ⟨ho98, re98, e9⟩ : ∃ z z2, (z, z2) = u := ⟨_, _, rfl⟩
        rw [← e9] at hw hP hD
        have hw98 := hw
        have hP : va_P dd vwCl (wM ad cI cL (q) ((rootN q)) (2) ((phN (2))) (ixv) (ho98) (re98) (wk) (tu) (wa) (nx)) H := hP
        have hD : va_D A (wM ad cI cL (q) ((rootN q)) (2) ((phN (2))) (ixv) (ho98) (re98) (wk) (tu) (wa) (nx)) := hD
        exact hret _ _ _ _ (ixv, ho98, re98) (⟨(hG e8).2, hw98⟩) hP hD hS dX1_begin_101
      · skip
        refine lv_aload_n (pc := 22) hx hb dX1_begin_22 rfl (lv_at hl 0 rfl) ?_
        refine lv_dup (pc := 23) hx hb dX1_begin_23 rfl ?_
        refine va_get (pc := 24) (D := dd) (ci := 1) (v := .int (nI (g))) (C := RX1) (T := TX1) (N := 11) hx hb hts hin hown hK hP 0 rfl rfl 1 (by decide) (hts (.fieldLink RX1 46 "TurningSumsModel" "root" "I") (by decide +kernel)) (fun _ h9 => h9) rfl dX1_begin_24 ?_
        refine nv_iconst (pc := 27) (k := 1) hx hb dX1_begin_27 rfl ?_
        refine nv_iadd (pc := 28) hx hb dX1_begin_28 ?_
        refine va_put (pc := 29) (D := dd) (ci := 1) (v := .int (nI ((g + 1)))) (ty := .int) (C := RX1) (T := TX1) (N := 11) hx hb hts hin tyX1 tyX1_ok nmX1 hown hK hP hD hS 0 rfl rfl 1 (by decide) (hts (.fieldLink RX1 46 "TurningSumsModel" "root" "I") (by decide +kernel)) (fun _ h9 => h9) rfl (by decide +kernel) rfl rfl (Nat.le_of_ble_eq_true rfl) dX1_begin_29 (fun H locs hP hD hS => ?_)
        have hP : va_P dd vwCl (wM ad cI cL (q) ((g + 1)) (D) (F) (ixv) (ho) (re) (wk) (tu) (wa) (nx)) H := hP
        have hD : va_D A (wM ad cI cL (q) ((g + 1)) (D) (F) (ixv) (ho) (re) (wk) (tu) (wa) (nx)) := hD
        refine nv_iconst (pc := 32) (k := 0) hx hb dX1_begin_32 rfl ?_
        refine lv_istore_n (pc := 33) (lv' := [(3, .int (nI (0))), (0, .ref (ad 0)), (1, .int (nI (q))), (2, .int (nI (f)))]) hx hb dX1_begin_33 rfl hl (by decide) rfl (fun ls hl => ?_)
        have L34 : ∀ (n9_34 : Nat), ∀ (x3 : Nat) (ixw : Nat → Int32), 201 - x3 < n9_34 → (x3 ≤ 200) → (∀ k, k < x3 → ixw k = zI (-1)) → ∀ (H : Heap) (locs : List Loc) (ls : Array Slot), va_P dd vwCl (wM ad cI cL (q) ((g + 1)) (D) (F) (ixw) (ho) (re) (wk) (tu) (wa) (nx)) H → va_D A (wM ad cI cL (q) ((g + 1)) (D) (F) (ixw) (ho) (re) (wk) (tu) (wa) (nx)) → va_S A s.heap H locs → lv_has ls 4 [(0, .ref (ad 0)), (1, .int (nI (q))), (2, .int (nI (f))), (3, .int (nI (x3)))] → W p l e ({ frames := 2, cells := 0, slots := 0, locals := 46 } : Room) s m args below meth c H locs 0 0 Q (F0 m 34 ls []) := by
          intro n9_34
          induction n9_34 with
          | zero => intro x3 ixw hm; exact absurd hm (Nat.not_lt_zero _)
          | succ n9_34 ih_34 =>
            intro x3 ixw hm_34 hx3 hw3 H locs ls hP hD hS hl
            refine lv_iload_n (pc := 34) hx hb dX1_begin_34 rfl (lv_at hl 3 rfl) ?_
            refine nv_sipush (pc := 35) (k := 200) hx hb dX1_begin_35 rfl (by decide) ?_
            refine nv_icmp_ge (pc := 38) (tgt := 54) hx hb (a := x3) (b := 200) (by omega) (by omega) dX1_begin_38 (by decide) (fun h38 => ?_) (fun h38 => ?_)
            · skip
              refine nv_iconst (pc := 54) (k := 0) hx hb dX1_begin_54 rfl ?_
              refine lv_istore_n (pc := 55) (lv' := [(2, .int (nI (0))), (0, .ref (ad 0)), (1, .int (nI (q))), (3, .int (nI (x3)))]) hx hb dX1_begin_55 rfl hl (by decide) rfl (fun ls hl => ?_)
              refine nv_iconst (pc := 56) (k := 1) hx hb dX1_begin_56 rfl ?_
              refine lv_istore_n (pc := 57) (lv' := [(3, .int (nI (1))), (2, .int (nI (0))), (0, .ref (ad 0)), (1, .int (nI (q)))]) hx hb dX1_begin_57 rfl hl (by decide) rfl (fun ls hl => ?_)
              have hgl : g < rootN q := (by have := hG; omega)
              obtain ⟨o, ho1, ho2, ho3, ho4⟩ := bg_or hq hg.1 hgl
              have hl : lv_has ls 4 [(3, .int (nI (((g + 1) ^ 0 % q)))), (2, .int (nI (0))), (0, .ref (ad 0)), (1, .int (nI (q)))] := by
                have e9 : nI (1) = nI (((g + 1) ^ 0 % q)) := by rw [Nat.pow_zero, Nat.mod_eq_of_lt (by omega)]
                rw [← e9]
                exact hl
              have L58 : ∀ (n9_58 : Nat), ∀ (k : Nat) (ixu : Nat → Int32), o + 1 - k < n9_58 → (k ≤ o) → (∀ j, j < k → ixu ((g + 1) ^ j % q) = nI j) → (∀ y, y < 200 → (∀ j, j < k → (g + 1) ^ j % q ≠ y) → ixu y = zI (-1)) → ∀ (H : Heap) (locs : List Loc) (ls : Array Slot), va_P dd vwCl (wM ad cI cL (q) ((g + 1)) (D) (F) (ixu) (ho) (re) (wk) (tu) (wa) (nx)) H → va_D A (wM ad cI cL (q) ((g + 1)) (D) (F) (ixu) (ho) (re) (wk) (tu) (wa) (nx)) → va_S A s.heap H locs → lv_has ls 4 [(0, .ref (ad 0)), (1, .int (nI (q))), (2, .int (nI (k))), (3, .int (nI (((g + 1) ^ k % q))))] → W p l e ({ frames := 2, cells := 0, slots := 0, locals := 46 } : Room) s m args below meth c H locs 0 0 Q (F0 m 58 ls []) := by
                intro n9_58
                induction n9_58 with
                | zero => intro k ixu hm; exact absurd hm (Nat.not_lt_zero _)
                | succ n9_58 ih_58 =>
                  intro k ixu hm_58 hk hi hn9 H locs ls hP hD hS hl
                  have hm := Nat.mod_lt ((g + 1) ^ k) (show 0 < q by omega)
                  refine lv_aload_n (pc := 58) hx hb dX1_begin_58 rfl (lv_at hl 0 rfl) ?_
                  refine va_get (pc := 59) (D := dd) (ci := 1) (v := .ref (ad 1)) (C := RX1) (T := TX1) (N := 11) hx hb hts hin hown hK hP 0 rfl rfl 4 (by decide) (hts (.fieldLink RX1 7 "TurningSumsModel" "index" "[I") (by decide +kernel)) (fun _ h9 => h9) rfl dX1_begin_59 ?_
                  refine lv_iload_n (pc := 62) hx hb dX1_begin_62 rfl (lv_at hl 3 rfl) ?_
                  refine nv_iald (pc := 63) hx hb hK hP 1 0 rfl rfl (i := ((g + 1) ^ k % q)) (by omega) (by decide) (v := ((ixu) (((g + 1) ^ k % q)))) (rfl) dX1_begin_63 ?_
                  refine lv_iconst (pc := 64) (v := zI (-1)) hx hb dX1_begin_64 rfl ?_
                  refine lv_icmp_ne (pc := 65) (tgt := 93) hx hb dX1_begin_65 (by decide) (fun h65 => ?_) (fun h65 => ?_)
                  · skip
                    refine lv_goto (pc := 93) (tgt := 12) hx hb dX1_begin_93 (by decide) ?_
                    exact ih_12 (k) ((g + 1)) (ixu) (by omega) (by omega) (fun z => by have := ho4 z; omega) (fun z => bg_out hq z (by omega) hi hn9 h65) _ _ _ hP hD hS (lv_sub hl [0, 1, 2] rfl)
                  · skip
                    refine lv_aload_n (pc := 68) hx hb dX1_begin_68 rfl (lv_at hl 0 rfl) ?_
                    refine va_get (pc := 69) (D := dd) (ci := 1) (v := .ref (ad 1)) (C := RX1) (T := TX1) (N := 11) hx hb hts hin hown hK hP 0 rfl rfl 4 (by decide) (hts (.fieldLink RX1 7 "TurningSumsModel" "index" "[I") (by decide +kernel)) (fun _ h9 => h9) rfl dX1_begin_69 ?_
                    refine lv_iload_n (pc := 72) hx hb dX1_begin_72 rfl (lv_at hl 3 rfl) ?_
                    refine lv_iload_n (pc := 73) hx hb dX1_begin_73 rfl (lv_at hl 2 rfl) ?_
                    refine nv_iast (pc := 74) hx hb hK hP hD hS 1 0 rfl rfl (by omega) (by decide) (ws' := (wM ad cI cL (q) ((g + 1)) (D) (F) ((upd (ixu) (((g + 1) ^ k % q)) (nI (k)))) (ho) (re) (wk) (tu) (wa) (nx))) rfl dX1_begin_74 (fun H locs hP hD hS => ?_)
                    refine lv_iinc (pc := 75) (v := nI ((k + 1))) (lv' := [(2, .int (nI ((k + 1)))), (0, .ref (ad 0)), (1, .int (nI (q))), (3, .int (nI (((g + 1) ^ k % q))))]) hx hb dX1_begin_75 hl (k := 2) rfl (nI_inc _) (by decide) rfl (fun ls hl => ?_)
                    refine lv_iload_n (pc := 78) hx hb dX1_begin_78 rfl (lv_at hl 3 rfl) ?_
                    refine lv_aload_n (pc := 79) hx hb dX1_begin_79 rfl (lv_at hl 1 rfl) ?_
                    refine va_get (pc := 80) (D := dd) (ci := 1) (v := .int (nI ((g + 1)))) (C := RX1) (T := TX1) (N := 11) hx hb hts hin hown hK hP 0 rfl rfl 1 (by decide) (hts (.fieldLink RX1 46 "TurningSumsModel" "root" "I") (by decide +kernel)) (fun _ h9 => h9) rfl dX1_begin_80 ?_
                    refine nv_imul (pc := 83) hx hb dX1_begin_83 ?_
                    refine lv_aload_n (pc := 84) hx hb dX1_begin_84 rfl (lv_at hl 1 rfl) ?_
                    refine va_get (pc := 85) (D := dd) (ci := 1) (v := .int (nI (q))) (C := RX1) (T := TX1) (N := 11) hx hb hts hin hown hK hP 0 rfl rfl 0 (by decide) (hts (.fieldLink RX1 42 "TurningSumsModel" "p" "I") (by decide +kernel)) (fun _ h9 => h9) rfl dX1_begin_85 ?_
                    refine nv_irem (pc := 88) hx hb (mul_b o2 hm (by omega)) (by omega) (by omega) dX1_begin_88 ?_
                    refine tq_i (y := nI (((g + 1) ^ (k + 1) % q))) (by rw [pw_step]) ?_
                    refine lv_istore_n (pc := 89) (lv' := [(3, .int (nI (((g + 1) ^ (k + 1) % q)))), (2, .int (nI ((k + 1)))), (0, .ref (ad 0)), (1, .int (nI (q)))]) hx hb dX1_begin_89 rfl hl (by decide) rfl (fun ls hl => ?_)
                    refine lv_goto (pc := 90) (tgt := 58) hx hb dX1_begin_90 (by decide) ?_
                    exact ih_58 ((k + 1)) ((upd (ixu) (((g + 1) ^ k % q)) (nI (k)))) (by have := bg_lt o1 hk ho3 ho1 hi h65; omega) (by have := bg_lt o1 hk ho3 ho1 hi h65; omega) (bg_hi (by omega) hi h65) (bg_hn hn9) _ _ _ hP hD hS (lv_sub hl [2, 3, 1, 0] rfl)
              exact L58 _ (0) (ixw) (Nat.lt_succ_self _) (by omega) (fun j a => by omega) (fun y a b => hw3 y (by omega)) _ _ _ hP hD hS (lv_sub hl [2, 3, 1, 0] rfl)
            · skip
              refine lv_aload_n (pc := 41) hx hb dX1_begin_41 rfl (lv_at hl 0 rfl) ?_
              refine va_get (pc := 42) (D := dd) (ci := 1) (v := .ref (ad 1)) (C := RX1) (T := TX1) (N := 11) hx hb hts hin hown hK hP 0 rfl rfl 4 (by decide) (hts (.fieldLink RX1 7 "TurningSumsModel" "index" "[I") (by decide +kernel)) (fun _ h9 => h9) rfl dX1_begin_42 ?_
              refine lv_iload_n (pc := 45) hx hb dX1_begin_45 rfl (lv_at hl 3 rfl) ?_
              refine lv_iconst (pc := 46) (v := zI (-1)) hx hb dX1_begin_46 rfl ?_
              refine nv_iast (pc := 47) hx hb hK hP hD hS 1 0 rfl rfl (by omega) (by decide) (ws' := (wM ad cI cL (q) ((g + 1)) (D) (F) ((upd (ixw) (x3) (zI ((-1))))) (ho) (re) (wk) (tu) (wa) (nx))) rfl dX1_begin_47 (fun H locs hP hD hS => ?_)
              refine lv_iinc (pc := 48) (v := nI ((x3 + 1))) (lv' := [(3, .int (nI ((x3 + 1)))), (0, .ref (ad 0)), (1, .int (nI (q))), (2, .int (nI (f)))]) hx hb dX1_begin_48 hl (k := 3) rfl (nI_inc _) (by decide) rfl (fun ls hl => ?_)
              refine lv_goto (pc := 51) (tgt := 34) hx hb dX1_begin_51 (by decide) ?_
              exact ih_34 ((x3 + 1)) ((upd (ixw) (x3) (zI ((-1))))) (by omega) (by omega) (updc hw3) _ _ _ hP hD hS (lv_sub hl [1, 2, 3, 0] rfl)
        exact L34 _ (0) (ixv) (Nat.lt_succ_self _) (by omega) (fun k a => by omega) _ _ _ hP hD hS (lv_sub hl [1, 2, 3, 0] rfl)
  exact L12 _ (0) (1) (ix) (Nat.lt_succ_self _) (by omega) (fun z => by omega) (fun z => by omega) _ _ _ hP hD hS (lv_sub hl [1, 2, 0] rfl)
end
section
/-! PURE 3: what the plain calls answer -/
def restS (P D : Nat) (x what : Int) : Int32 := if 0 ≤ what ∧ what ≤ 1 then (if fmN x P = 0 then zI (-1) else if what = 0 then nI (ixN P (fmN x P)) else nI (clsN P D (fmN x P))) else zI (-3)
def mtC (P D : Nat) (i j : Int) : Nat → Nat
  | 0 => 0
  | x + 1 => mtC P D i j x + (if 1 ≤ x ∧ ((clsN P D x : Nat) : Int) = i ∧ ((clsN P D (x + 1) : Nat) : Int) = j then 1 else 0)
theorem mtC_le (P D : Nat) (i j : Int) : ∀ x, mtC P D i j x ≤ x
  | 0 => Nat.le_refl _
  | x + 1 => by
    have := mtC_le P D i j x
    unfold mtC
    split <;> omega
theorem mtC_1 {P D x : Nat} {i j : Int} (h : 1 ≤ x ∧ ((clsN P D x : Nat) : Int) = i ∧ ((clsN P D (x + 1) : Nat) : Int) = j) : mtC P D i j (x + 1) = mtC P D i j x + 1 := by
  show mtC P D i j x + _ = _
  rw [if_pos h]
theorem mtC_0 {P D x : Nat} {i j : Int} (h : ¬ (1 ≤ x ∧ ((clsN P D x : Nat) : Int) = i ∧ ((clsN P D (x + 1) : Nat) : Int) = j)) : mtC P D i j (x + 1) = mtC P D i j x := by
  show mtC P D i j x + _ = _
  rw [if_neg h]
  rfl
def mtS (P D : Nat) (i j : Int) : Int32 := if (0 ≤ i ∧ i < (D : Int)) ∧ 0 ≤ j ∧ j < (D : Int) then nI (mtC P D i j (P - 1)) else zI (-2)
def ctS (P D : Nat) (what : Int) : Int32 := if what = 0 then nI P else if what = 1 then nI (rootN P) else if what = 2 then nI D else if what = 3 then nI (phN D) else zI (-3)
def isH (h : Int) : Prop := 0 ≤ h ∧ h < 6
def atS (D : Nat) (hv : Nat → Nat → Int32) (h i : Int) : Int32 := if (0 ≤ h ∧ h < 6) ∧ 0 ≤ i ∧ i < (phN D : Int) then hv h.toNat i.toNat else zI (-2147483648)
def smB (hv : Nat → Nat → Int32) (a b : Nat) : Nat → Bool
  | 0 => true
  | k + 1 => smB hv a b k && (hv a k == hv b k)
def smS (D : Nat) (hv : Nat → Nat → Int32) (a b : Int) : Int32 := if (0 ≤ a ∧ a < 6) ∧ 0 ≤ b ∧ b < 6 then (if smB hv a.toNat b.toNat (phN D) = true then nI 1 else nI 0) else zI (-2)
theorem smB_iff (hv : Nat → Nat → Int32) (a b : Nat) : ∀ n, smB hv a b n = true ↔ ∀ k, k < n → hv a k = hv b k
  | 0 => ⟨fun _ k h => absurd h (Nat.not_lt_zero k), fun _ => rfl⟩
  | n + 1 => by
    unfold smB
    rw [Bool.and_eq_true, smB_iff hv a b n]
    constructor
    · intro h k hk
      rcases Nat.lt_or_ge k n with z | z
      · exact h.1 k z
      · have e : k = n := by omega
        rw [e]
        simpa using h.2
    · intro h
      exact ⟨fun k hk => h k (by omega), by simpa using h n (by omega)⟩
/-- the numbers held, in the one and in the other -/
def okH (D : Nat) (hv hd : Nat → Nat → Int32) : Prop := ∀ a, a < 6 → ∀ b, b < phN D → hd a b = hv a b
def okL (D : Nat) (hv : Nat → Nat → Int32) (ho : Nat → Int64) : Prop := ∀ a, a < 6 → ∀ b, b < 12 → ho (12 * a + b) = if b < phN D then zL (hv a b).toInt else zL 0
theorem zL_int (x : Int32) : (zL x.toInt).toInt32 = x := by rw [zL_toI, zI_of]
theorem zL_inj {x y : Int32} (h : zL x.toInt = zL y.toInt) : x = y := by
  rw [← zL_int x, ← zL_int y, h]
end
section
set_option maxHeartbeats 4000000 in
set_option maxRecDepth 100000 in
theorem c_X0_prime (l : Launch) (dd : va_G) {ad : Nat → Nat} {cI cL cQ : ClassId} {tR : Nat}  {ix : Nat → Int32} {pw : Nat → Int32} {sg : Nat → Int32} {tm : Nat → Int32} {hd : Nat → Nat → Int32} {wk : Nat → Int64} {rc : Nat → Int64} {lc : Nat → Int64} {P : Nat} {D : Nat} {v : Int} (hv9 : -2147483648 ≤ v ∧ v < 2147483648) (hP1 : okP P) (hD1 : 1 ≤ D ∧ D ≤ 12) : CTi l yX0_prime wsX0_prime ({ frames := 3, cells := 0, slots := 0, locals := 68 } : Room) dd (tysA cI cL cQ) (rX tR) [.ref (ad 0), .int (zI (v))] (wC ad cI cL cQ (ix) (pw) (sg) (tm) (hd) (wk) (rc) (lc) (P) ((rootN P)) (D) ((phN D))) (fun (r : Int32) (u : (Nat × Nat × (Nat → Int32) × (Nat → Int32) × (Nat → Nat → Int32))) => (v.toNat ∈ prT ∧ r = nI (rootN v.toNat) ∧ u.1 = v.toNat ∧ u.2.1 = 2 ∧ okI v.toNat u.2.2.1 u.2.2.2.1 ∧ ∀ a, a < 6 → ∀ b, b < 10 → u.2.2.2.2 a b = nI 0) ∨ (v.toNat ∉ prT ∧ r = zI (-3) ∧ u = (P, D, ix, pw, hd))) (fun (u : (Nat × Nat × (Nat → Int32) × (Nat → Int32) × (Nat → Nat → Int32))) => (wC ad cI cL cQ (u.2.2.1) (u.2.2.2.1) (sg) (tm) (u.2.2.2.2) (wk) (rc) (lc) (u.1) ((rootN u.1)) (u.2.1) ((phN u.2.1)))) := by
  refine CTi_of (cc := cX0_prime) (maxL := 2) (by decide +kernel) rfl (Nat.le_of_ble_eq_true rfl) ?_
  intro p e s m args below meth c A Q ls H locs hx hb hts hown hml hP hK hD hS hA hX hl hret
  have hin : ∀ w ∈ wsX00, w ∈ wsX0_prime := by decide +kernel
  have hl : lv_has ls 2 [(0, .ref (ad 0)), (1, .int (zI (v)))] := hl
  obtain ⟨o1, o2, o3, o4, o5, o6⟩ := id hP1
  have hph := ph_rng D (by omega) hD1.1
  refine lv_iload_n (pc := 0) hx hb dX0_prime_0 rfl (lv_at hl 1 rfl) ?_
  refine nv_iconst (pc := 1) (k := 3) hx hb dX0_prime_1 rfl ?_
  refine zv_2 (pc := 2) (a := ((3 : Nat) : Int)) (b := v) ((nI_zI _)) (rfl) ?_
  refine zv_icmp_lt (pc := 2) (tgt := 19) hx hb (by omega) (by omega) dX0_prime_2 (by decide) (fun h2 => ?_) (fun h2 => ?_)
  · skip
    refine lv_bipush (pc := 19) (v := zI (-3)) hx hb dX0_prime_19 (by decide) ?_
    exact hret _ _ _ _ _ (P, D, ix, pw, hd) (Or.inr ⟨fun z => by have := okP_of _ z; unfold okP at this; omega, rfl, rfl⟩) hP hD hS dX0_prime_21
  · skip
    refine lv_iload_n (pc := 5) hx hb dX0_prime_5 rfl (lv_at hl 1 rfl) ?_
    refine nv_sipush (pc := 6) (k := 199) hx hb dX0_prime_6 rfl (by decide) ?_
    refine zv_2 (pc := 9) (a := ((199 : Nat) : Int)) (b := v) ((nI_zI _)) (rfl) ?_
    refine zv_icmp_gt (pc := 9) (tgt := 19) hx hb (by omega) (by omega) dX0_prime_9 (by decide) (fun h9 => ?_) (fun h9 => ?_)
    · skip
      refine lv_bipush (pc := 19) (v := zI (-3)) hx hb dX0_prime_19 (by decide) ?_
      exact hret _ _ _ _ _ (P, D, ix, pw, hd) (Or.inr ⟨fun z => by have := okP_of _ z; unfold okP at this; omega, rfl, rfl⟩) hP hD hS dX0_prime_21
    · skip
      refine lv_iload_n (pc := 12) hx hb dX0_prime_12 rfl (lv_at hl 1 rfl) ?_
      refine tq_i (pc := 13) (y := nI ((v).toNat)) (zI_toNat (by omega)) ?_
      refine CTi_S0 (pc := 13) am_no_ok (As := [.int (nI ((v).toNat))]) (rest := []) ⟨hx, hb, hml, hown, hts⟩ (c_X0_isPrime l dd (by omega) (by omega)) (va_cwS 1 hts gX0_prime_X0_isPrime rfl rfl rfl (by decide +kernel) ⟨Nat.le_of_ble_eq_true rfl, Nat.le_of_ble_eq_true rfl⟩) hK hP hD hS hA trivial rfl hl.1 rfl (Nat.le_of_ble_eq_true rfl) ⟨Nat.zero_le _, Nat.zero_le _⟩ dX0_prime_13 (fun r u H locs hw hP hD hS => ?_)
      try dsimp only at hw
      subst hw
      refine bv_if_ne (pc := 16) (tgt := 22) hx hb dX0_prime_16 (by decide) (fun h16 => ?_) (fun h16 => ?_)
      · skip
        refine lv_aload_n (pc := 22) hx hb dX0_prime_22 rfl (lv_at hl 0 rfl) ?_
        refine lv_iload_n (pc := 23) hx hb dX0_prime_23 rfl (lv_at hl 1 rfl) ?_
        refine tq_i (pc := 24) (y := nI ((v).toNat)) (zI_toNat (by omega)) ?_
        refine CTv_Vw (pc := 24) (rX_ok tR) (As := [.int (nI ((v).toNat))]) (rest := []) ⟨hx, hb, hml, hown, hts⟩ (c_X0_setPrime l dd (okP_of _ h16)) (cwV 1 hts gX0_prime_X0_setPrime rfl rfl rfl (by decide +kernel) ⟨Nat.le_of_ble_eq_true rfl, Nat.le_of_ble_eq_true rfl⟩) hK hP hD hS hA hX hK 0 0 rfl rfl rfl rfl hl.1 rfl (Nat.le_of_ble_eq_true rfl) ⟨Nat.zero_le _, Nat.zero_le _⟩ dX0_prime_24 (fun u H locs hw hP hD hS => ?_)
        try dsimp only at hw
        obtain ⟨ix24, pw24, hd24, e9⟩ : ∃ z z2 z3, (z, z2, z3) = u := ⟨_, _, _, rfl⟩
        rw [← e9] at hw hP hD
        have hw24 := hw
        have hP : va_P dd vwCl (wC ad cI cL cQ (ix24) (pw24) (sg) (tm) (hd24) (wk) (rc) (lc) ((v).toNat) ((rootN ((v).toNat))) (2) ((phN 2))) H := hP
        have hD : va_D A (wC ad cI cL cQ (ix24) (pw24) (sg) (tm) (hd24) (wk) (rc) (lc) ((v).toNat) ((rootN ((v).toNat))) (2) ((phN 2))) := hD
        refine lv_aload_n (pc := 27) hx hb dX0_prime_27 rfl (lv_at hl 0 rfl) ?_
        refine va_get (pc := 28) (D := dd) (ci := 0) (v := .int (nI ((rootN ((v).toNat))))) (C := RX0) (T := TX0) (N := 12) hx hb hts hin hown hK hP 0 rfl rfl 9 (by decide) (hts (.fieldLink RX0 45 "TurningSums" "root" "I") (by decide +kernel)) (fun _ h9 => h9) rfl dX0_prime_28 ?_
        exact hret _ _ _ _ _ ((v).toNat, 2, ix24, pw24, hd24) (Or.inl ⟨h16, rfl, rfl, rfl, hw24.1, hw24.2⟩) hP hD hS dX0_prime_31
      · skip
        refine lv_bipush (pc := 19) (v := zI (-3)) hx hb dX0_prime_19 (by decide) ?_
        exact hret _ _ _ _ _ (P, D, ix, pw, hd) (Or.inr ⟨h16, rfl, rfl⟩) hP hD hS dX0_prime_21
set_option maxHeartbeats 4000000 in
set_option maxRecDepth 100000 in
theorem c_X1_prime (l : Launch) (dd : va_G) {ad : Nat → Nat} {cI cL cQ : ClassId}  {P : Nat} {D : Nat} {ix : Nat → Int32} {ho : Nat → Int64} {re : Nat → Int32} {wk : Nat → Int64} {tu : Nat → Int64} {wa : Nat → Int64} {nx : Nat → Int64} {v : Int} (hv9 : -2147483648 ≤ v ∧ v < 2147483648) (hP1 : okP P) (hD1 : 1 ≤ D ∧ D ≤ 12) : CTi l yX1_prime wsX1_prime ({ frames := 3, cells := 0, slots := 0, locals := 69 } : Room) dd (tysA cI cL cQ) (am_no) [.ref (ad 0), .int (zI (v))] (wM ad cI cL (P) ((rootN P)) (D) ((phN D)) (ix) (ho) (re) (wk) (tu) (wa) (nx)) (fun (r : Int32) (u : (Nat × Nat × (Nat → Int32) × (Nat → Int64) × (Nat → Int32))) => (v.toNat ∈ prT ∧ r = nI (rootN v.toNat) ∧ u.1 = v.toNat ∧ u.2.1 = 2 ∧ (∀ y, 1 ≤ y → y < v.toNat → u.2.2.1 y = nI (ixN v.toNat y)) ∧ (∀ k, k < 72 → u.2.2.2.1 k = zL 0) ∧ ∀ i, i < 13 → u.2.2.2.2 i = zI (relM 2 i)) ∨ (v.toNat ∉ prT ∧ r = zI (-3) ∧ u = (P, D, ix, ho, re))) (fun (u : (Nat × Nat × (Nat → Int32) × (Nat → Int64) × (Nat → Int32))) => (wM ad cI cL (u.1) ((rootN u.1)) (u.2.1) ((phN u.2.1)) (u.2.2.1) (u.2.2.2.1) (u.2.2.2.2) (wk) (tu) (wa) (nx))) := by
  refine CTi_of (cc := cX1_prime) (maxL := 2) (by decide +kernel) rfl (Nat.le_of_ble_eq_true rfl) ?_
  intro p e s m args below meth c A Q ls H locs hx hb hts hown hml hP hK hD hS hA hX hl hret
  have hin : ∀ w ∈ wsX10, w ∈ wsX1_prime := by decide +kernel
  have hl : lv_has ls 2 [(0, .ref (ad 0)), (1, .int (zI (v)))] := hl
  obtain ⟨o1, o2, o3, o4, o5, o6⟩ := id hP1
  have hph := ph_rng D (by omega) hD1.1
  refine lv_iload_n (pc := 0) hx hb dX1_prime_0 rfl (lv_at hl 1 rfl) ?_
  refine CTi_S0 (pc := 1) am_no_ok (As := [.int (zI (v))]) (rest := []) ⟨hx, hb, hml, hown, hts⟩ (c_X1_isPrime l dd (by omega)) (va_cwS 1 hts gX1_prime_X1_isPrime rfl rfl rfl (by decide +kernel) ⟨Nat.le_of_ble_eq_true rfl, Nat.le_of_ble_eq_true rfl⟩) hK hP hD hS hA hX rfl hl.1 rfl (Nat.le_of_ble_eq_true rfl) ⟨Nat.zero_le _, Nat.zero_le _⟩ dX1_prime_1 (fun r u H locs hw hP hD hS => ?_)
  try dsimp only at hw
  subst hw
  refine bv_if_ne (pc := 4) (tgt := 10) hx hb dX1_prime_4 (by decide) (fun h4 => ?_) (fun h4 => ?_)
  · skip
    refine lv_aload_n (pc := 10) hx hb dX1_prime_10 rfl (lv_at hl 0 rfl) ?_
    refine lv_iload_n (pc := 11) hx hb dX1_prime_11 rfl (lv_at hl 1 rfl) ?_
    refine tq_i (pc := 12) (y := nI ((v).toNat)) (zI_toNat (by have := okP_of _ h4; unfold okP at this; omega)) ?_
    refine CTv_Vw (pc := 12) am_no_ok (As := [.int (nI ((v).toNat))]) (rest := []) ⟨hx, hb, hml, hown, hts⟩ (c_X1_begin l dd (okP_of _ h4)) (cwV 1 hts gX1_prime_X1_begin rfl rfl rfl (by decide +kernel) ⟨Nat.le_of_ble_eq_true rfl, Nat.le_of_ble_eq_true rfl⟩) hK hP hD hS hA hX hK 0 1 rfl rfl rfl rfl hl.1 rfl (Nat.le_of_ble_eq_true rfl) ⟨Nat.zero_le _, Nat.zero_le _⟩ dX1_prime_12 (fun u H locs hw hP hD hS => ?_)
    try dsimp only at hw
    obtain ⟨ix12, ho12, re12, e9⟩ : ∃ z z2 z3, (z, z2, z3) = u := ⟨_, _, _, rfl⟩
    rw [← e9] at hw hP hD
    have hw12 := hw
    have hP : va_P dd vwCl (wM ad cI cL ((v).toNat) ((rootN ((v).toNat))) (2) ((phN 2)) (ix12) (ho12) (re12) (wk) (tu) (wa) (nx)) H := hP
    have hD : va_D A (wM ad cI cL ((v).toNat) ((rootN ((v).toNat))) (2) ((phN 2)) (ix12) (ho12) (re12) (wk) (tu) (wa) (nx)) := hD
    refine lv_aload_n (pc := 15) hx hb dX1_prime_15 rfl (lv_at hl 0 rfl) ?_
    refine va_get (pc := 16) (D := dd) (ci := 1) (v := .int (nI ((rootN ((v).toNat))))) (C := RX1) (T := TX1) (N := 11) hx hb hts hin hown hK hP 0 rfl rfl 1 (by decide) (hts (.fieldLink RX1 46 "TurningSumsModel" "root" "I") (by decide +kernel)) (fun _ h9 => h9) rfl dX1_prime_16 ?_
    exact hret _ _ _ _ _ ((v).toNat, 2, ix12, ho12, re12) (Or.inl ⟨h4, rfl, rfl, rfl, hw12.1, hw12.2.1, hw12.2.2⟩) hP hD hS dX1_prime_19
  · skip
    refine lv_bipush (pc := 7) (v := zI (-3)) hx hb dX1_prime_7 (by decide) ?_
    exact hret _ _ _ _ _ (P, D, ix, ho, re) (Or.inr ⟨h4, rfl, rfl⟩) hP hD hS dX1_prime_9
set_option maxHeartbeats 4000000 in
set_option maxRecDepth 100000 in
theorem c_X0_degree (l : Launch) (dd : va_G) {ad : Nat → Nat} {cI cL cQ : ClassId} {tR : Nat}  {ix : Nat → Int32} {pw : Nat → Int32} {sg : Nat → Int32} {tm : Nat → Int32} {hd : Nat → Nat → Int32} {wk : Nat → Int64} {rc : Nat → Int64} {lc : Nat → Int64} {P : Nat} {D : Nat} {v : Int} (hv9 : -2147483648 ≤ v ∧ v < 2147483648) (hP1 : okP P) (hD1 : 1 ≤ D ∧ D ≤ 12) : CTi l yX0_degree wsX0_degree ({ frames := 2, cells := 0, slots := 0, locals := 45 } : Room) dd (tysA cI cL cQ) (rX tR) [.ref (ad 0), .int (zI (v))] (wC ad cI cL cQ (ix) (pw) (sg) (tm) (hd) (wk) (rc) (lc) (P) ((rootN P)) (D) ((phN D))) (fun (r : Int32) (u : (Nat × (Nat → Nat → Int32))) => ((1 ≤ v ∧ v ≤ 12 ∧ (P - 1) % v.toNat = 0) ∧ r = nI (phN v.toNat) ∧ u.1 = v.toNat ∧ ∀ a, a < 6 → ∀ b, b < 10 → u.2 a b = nI 0) ∨ (¬ (1 ≤ v ∧ v ≤ 12 ∧ (P - 1) % v.toNat = 0) ∧ r = zI (-3) ∧ u = (D, hd))) (fun (u : Nat × (Nat → Nat → Int32)) => (wC ad cI cL cQ (ix) (pw) (sg) (tm) (u.2) (wk) (rc) (lc) (P) ((rootN P)) (u.1) ((phN u.1)))) := by
  refine CTi_of (cc := cX0_degree) (maxL := 2) (by decide +kernel) rfl (Nat.le_of_ble_eq_true rfl) ?_
  intro p e s m args below meth c A Q ls H locs hx hb hts hown hml hP hK hD hS hA hX hl hret
  have hin : ∀ w ∈ wsX00, w ∈ wsX0_degree := by decide +kernel
  have hl : lv_has ls 2 [(0, .ref (ad 0)), (1, .int (zI (v)))] := hl
  obtain ⟨o1, o2, o3, o4, o5, o6⟩ := id hP1
  have hph := ph_rng D (by omega) hD1.1
  refine lv_iload_n (pc := 0) hx hb dX0_degree_0 rfl (lv_at hl 1 rfl) ?_
  refine nv_iconst (pc := 1) (k := 1) hx hb dX0_degree_1 rfl ?_
  refine zv_2 (pc := 2) (a := ((1 : Nat) : Int)) (b := v) ((nI_zI _)) (rfl) ?_
  refine zv_icmp_lt (pc := 2) (tgt := 22) hx hb (by omega) (by omega) dX0_degree_2 (by decide) (fun h2 => ?_) (fun h2 => ?_)
  · skip
    refine lv_bipush (pc := 22) (v := zI (-3)) hx hb dX0_degree_22 (by decide) ?_
    exact hret _ _ _ _ _ (D, hd) (Or.inr ⟨by omega, rfl, rfl⟩) hP hD hS dX0_degree_24
  · skip
    refine lv_iload_n (pc := 5) hx hb dX0_degree_5 rfl (lv_at hl 1 rfl) ?_
    refine nv_bipush (pc := 6) (k := 12) hx hb dX0_degree_6 rfl (by decide) ?_
    refine zv_2 (pc := 8) (a := ((12 : Nat) : Int)) (b := v) ((nI_zI _)) (rfl) ?_
    refine zv_icmp_gt (pc := 8) (tgt := 22) hx hb (by omega) (by omega) dX0_degree_8 (by decide) (fun h8 => ?_) (fun h8 => ?_)
    · skip
      refine lv_bipush (pc := 22) (v := zI (-3)) hx hb dX0_degree_22 (by decide) ?_
      exact hret _ _ _ _ _ (D, hd) (Or.inr ⟨by omega, rfl, rfl⟩) hP hD hS dX0_degree_24
    · skip
      refine lv_aload_n (pc := 11) hx hb dX0_degree_11 rfl (lv_at hl 0 rfl) ?_
      refine va_get (pc := 12) (D := dd) (ci := 0) (v := .int (nI (P))) (C := RX0) (T := TX0) (N := 12) hx hb hts hin hown hK hP 0 rfl rfl 8 (by decide) (hts (.fieldLink RX0 49 "TurningSums" "p" "I") (by decide +kernel)) (fun _ h9 => h9) rfl dX0_degree_12 ?_
      refine nv_iconst (pc := 15) (k := 1) hx hb dX0_degree_15 rfl ?_
      refine nv_isub (pc := 16) hx hb (by omega) dX0_degree_16 ?_
      refine lv_iload_n (pc := 17) hx hb dX0_degree_17 rfl (lv_at hl 1 rfl) ?_
      refine tq_i (y := nI (v.toNat)) (zI_toNat (by omega)) ?_
      refine nv_irem (pc := 18) hx hb (by omega) (by omega) (by omega) dX0_degree_18 ?_
      refine nv_if_eq (pc := 19) (tgt := 25) hx hb (a := ((P - 1) % v.toNat)) (Nat.lt_trans (Nat.mod_lt _ (by omega)) (by omega)) dX0_degree_19 (by decide) (fun h19 => ?_) (fun h19 => ?_)
      · skip
        refine lv_aload_n (pc := 25) hx hb dX0_degree_25 rfl (lv_at hl 0 rfl) ?_
        refine lv_iload_n (pc := 26) hx hb dX0_degree_26 rfl (lv_at hl 1 rfl) ?_
        refine tq_i (pc := 27) (y := nI ((v).toNat)) (zI_toNat (by omega)) ?_
        refine CTv_Vw (pc := 27) (rX_ok tR) (As := [.int (nI ((v).toNat))]) (rest := []) ⟨hx, hb, hml, hown, hts⟩ (c_X0_setDegree l dd (by omega) (by omega)) (cwV 1 hts gX0_degree_X0_setDegree rfl rfl rfl (by decide +kernel) ⟨Nat.le_of_ble_eq_true rfl, Nat.le_of_ble_eq_true rfl⟩) hK hP hD hS hA hX hK 0 0 rfl rfl rfl rfl hl.1 rfl (Nat.le_of_ble_eq_true rfl) ⟨Nat.zero_le _, Nat.zero_le _⟩ dX0_degree_27 (fun u H locs hw hP hD hS => ?_)
        try dsimp only at hw
        obtain ⟨hd27, e9⟩ : ∃ z, z = u := ⟨_, rfl⟩
        rw [← e9] at hw hP hD
        have hw27 := hw
        have hP : va_P dd vwCl (wC ad cI cL cQ (ix) (pw) (sg) (tm) (hd27) (wk) (rc) (lc) (P) ((rootN P)) ((v).toNat) ((phN ((v).toNat)))) H := hP
        have hD : va_D A (wC ad cI cL cQ (ix) (pw) (sg) (tm) (hd27) (wk) (rc) (lc) (P) ((rootN P)) ((v).toNat) ((phN ((v).toNat)))) := hD
        refine lv_aload_n (pc := 30) hx hb dX0_degree_30 rfl (lv_at hl 0 rfl) ?_
        refine va_get (pc := 31) (D := dd) (ci := 0) (v := .int (nI ((phN ((v).toNat))))) (C := RX0) (T := TX0) (N := 12) hx hb hts hin hown hK hP 0 rfl rfl 11 (by decide) (hts (.fieldLink RX0 55 "TurningSums" "phi" "I") (by decide +kernel)) (fun _ h9 => h9) rfl dX0_degree_31 ?_
        exact hret _ _ _ _ _ ((v).toNat, hd27) (Or.inl ⟨⟨by omega, by omega, h19⟩, rfl, rfl, hw27⟩) hP hD hS dX0_degree_34
      · skip
        refine lv_bipush (pc := 22) (v := zI (-3)) hx hb dX0_degree_22 (by decide) ?_
        exact hret _ _ _ _ _ (D, hd) (Or.inr ⟨fun z => h19 z.2.2, rfl, rfl⟩) hP hD hS dX0_degree_24
set_option maxHeartbeats 4000000 in
set_option maxRecDepth 100000 in
theorem c_X1_degree (l : Launch) (dd : va_G) {ad : Nat → Nat} {cI cL cQ : ClassId}  {P : Nat} {D : Nat} {ix : Nat → Int32} {ho : Nat → Int64} {re : Nat → Int32} {wk : Nat → Int64} {tu : Nat → Int64} {wa : Nat → Int64} {nx : Nat → Int64} {v : Int} (hv9 : -2147483648 ≤ v ∧ v < 2147483648) (hP1 : okP P) (hD1 : 1 ≤ D ∧ D ≤ 12) : CTi l yX1_degree wsX1_degree ({ frames := 2, cells := 0, slots := 0, locals := 46 } : Room) dd (tysA cI cL cQ) (am_no) [.ref (ad 0), .int (zI (v))] (wM ad cI cL (P) ((rootN P)) (D) ((phN D)) (ix) (ho) (re) (wk) (tu) (wa) (nx)) (fun (r : Int32) (u : (Nat × (Nat → Int64) × (Nat → Int32))) => ((1 ≤ v ∧ v ≤ 12 ∧ (P - 1) % v.toNat = 0) ∧ r = nI (phN v.toNat) ∧ u.1 = v.toNat ∧ (∀ k, k < 72 → u.2.1 k = zL 0) ∧ ∀ i, i < 13 → u.2.2 i = zI (relM v.toNat i)) ∨ (¬ (1 ≤ v ∧ v ≤ 12 ∧ (P - 1) % v.toNat = 0) ∧ r = zI (-3) ∧ u = (D, ho, re))) (fun (u : Nat × (Nat → Int64) × (Nat → Int32)) => (wM ad cI cL (P) ((rootN P)) (u.1) ((phN u.1)) (ix) (u.2.1) (u.2.2) (wk) (tu) (wa) (nx))) := by
  refine CTi_of (cc := cX1_degree) (maxL := 2) (by decide +kernel) rfl (Nat.le_of_ble_eq_true rfl) ?_
  intro p e s m args below meth c A Q ls H locs hx hb hts hown hml hP hK hD hS hA hX hl hret
  have hin : ∀ w ∈ wsX10, w ∈ wsX1_degree := by decide +kernel
  have hl : lv_has ls 2 [(0, .ref (ad 0)), (1, .int (zI (v)))] := hl
  obtain ⟨o1, o2, o3, o4, o5, o6⟩ := id hP1
  have hph := ph_rng D (by omega) hD1.1
  refine lv_iload_n (pc := 0) hx hb dX1_degree_0 rfl (lv_at hl 1 rfl) ?_
  refine lv_i2l (pc := 1) (v := zL (v)) hx hb dX1_degree_1 (zL_zI (by omega) (by omega)) ?_
  refine lv_lconst (pc := 2) (v := zL 1) hx hb dX1_degree_2 (by decide) ?_
  refine tq_ldc2 (pc := 3) (k := (12)) hx hb hown (hts (.constantLong RX1 66 (12)) (by decide +kernel)) dX1_degree_3 ?_
  refine CTi_S0 (pc := 6) am_no_ok (As := [.long (zL (v)), .long (zL 1), .long (zL (12))]) (rest := []) ⟨hx, hb, hml, hown, hts⟩ (c_X1_in l dd ) (va_cwS 3 hts gX1_degree_X1_in rfl rfl rfl (by decide +kernel) ⟨Nat.le_of_ble_eq_true rfl, Nat.le_of_ble_eq_true rfl⟩) hK hP hD hS hA hX rfl hl.1 rfl (Nat.le_of_ble_eq_true rfl) ⟨Nat.zero_le _, Nat.zero_le _⟩ dX1_degree_6 (fun r u H locs hw hP hD hS => ?_)
  try dsimp only at hw
  subst hw
  refine bv_if_eq (pc := 9) (tgt := 23) hx hb dX1_degree_9 (by decide) (fun h9 => ?_) (fun h9 => ?_)
  · skip
    rw [zL_le (by omega) (by omega), zL_le (by omega) (by omega)] at h9
    refine lv_bipush (pc := 23) (v := zI (-3)) hx hb dX1_degree_23 (by decide) ?_
    exact hret _ _ _ _ _ (D, ho, re) (Or.inr ⟨by omega, rfl, rfl⟩) hP hD hS dX1_degree_25
  · skip
    rw [zL_le (by omega) (by omega), zL_le (by omega) (by omega)] at h9
    refine lv_aload_n (pc := 12) hx hb dX1_degree_12 rfl (lv_at hl 0 rfl) ?_
    refine va_get (pc := 13) (D := dd) (ci := 1) (v := .int (nI (P))) (C := RX1) (T := TX1) (N := 11) hx hb hts hin hown hK hP 0 rfl rfl 0 (by decide) (hts (.fieldLink RX1 42 "TurningSumsModel" "p" "I") (by decide +kernel)) (fun _ h9 => h9) rfl dX1_degree_13 ?_
    refine nv_iconst (pc := 16) (k := 1) hx hb dX1_degree_16 rfl ?_
    refine nv_isub (pc := 17) hx hb (by omega) dX1_degree_17 ?_
    refine lv_iload_n (pc := 18) hx hb dX1_degree_18 rfl (lv_at hl 1 rfl) ?_
    refine tq_i (y := nI (v.toNat)) (zI_toNat (by omega)) ?_
    refine nv_irem (pc := 19) hx hb (by omega) (by omega) (by omega) dX1_degree_19 ?_
    refine nv_if_eq (pc := 20) (tgt := 26) hx hb (a := ((P - 1) % v.toNat)) (Nat.lt_trans (Nat.mod_lt _ (by omega)) (by omega)) dX1_degree_20 (by decide) (fun h20 => ?_) (fun h20 => ?_)
    · skip
      refine lv_aload_n (pc := 26) hx hb dX1_degree_26 rfl (lv_at hl 0 rfl) ?_
      refine lv_iload_n (pc := 27) hx hb dX1_degree_27 rfl (lv_at hl 1 rfl) ?_
      refine tq_i (pc := 28) (y := nI ((v).toNat)) (zI_toNat (by omega)) ?_
      refine CTv_Vw (pc := 28) am_no_ok (As := [.int (nI ((v).toNat))]) (rest := []) ⟨hx, hb, hml, hown, hts⟩ (c_X1_setDegree l dd (by omega) (by omega)) (cwV 1 hts gX1_degree_X1_setDegree rfl rfl rfl (by decide +kernel) ⟨Nat.le_of_ble_eq_true rfl, Nat.le_of_ble_eq_true rfl⟩) hK hP hD hS hA hX hK 0 1 rfl rfl rfl rfl hl.1 rfl (Nat.le_of_ble_eq_true rfl) ⟨Nat.zero_le _, Nat.zero_le _⟩ dX1_degree_28 (fun u H locs hw hP hD hS => ?_)
      try dsimp only at hw
      obtain ⟨ho28, re28, e9⟩ : ∃ z z2, (z, z2) = u := ⟨_, _, rfl⟩
      rw [← e9] at hw hP hD
      have hw28 := hw
      have hP : va_P dd vwCl (wM ad cI cL (P) ((rootN P)) ((v).toNat) ((phN ((v).toNat))) (ix) (ho28) (re28) (wk) (tu) (wa) (nx)) H := hP
      have hD : va_D A (wM ad cI cL (P) ((rootN P)) ((v).toNat) ((phN ((v).toNat))) (ix) (ho28) (re28) (wk) (tu) (wa) (nx)) := hD
      refine lv_aload_n (pc := 31) hx hb dX1_degree_31 rfl (lv_at hl 0 rfl) ?_
      refine va_get (pc := 32) (D := dd) (ci := 1) (v := .int (nI ((phN ((v).toNat))))) (C := RX1) (T := TX1) (N := 11) hx hb hts hin hown hK hP 0 rfl rfl 3 (by decide) (hts (.fieldLink RX1 55 "TurningSumsModel" "phi" "I") (by decide +kernel)) (fun _ h9 => h9) rfl dX1_degree_32 ?_
      exact hret _ _ _ _ _ ((v).toNat, ho28, re28) (Or.inl ⟨⟨by omega, by omega, h20⟩, rfl, rfl, hw28.1, hw28.2⟩) hP hD hS dX1_degree_35
    · skip
      refine lv_bipush (pc := 23) (v := zI (-3)) hx hb dX1_degree_23 (by decide) ?_
      exact hret _ _ _ _ _ (D, ho, re) (Or.inr ⟨fun z => h20 z.2.2, rfl, rfl⟩) hP hD hS dX1_degree_25
set_option maxHeartbeats 4000000 in
set_option maxRecDepth 100000 in
theorem c_X0_rest (l : Launch) (dd : va_G) {ad : Nat → Nat} {cI cL cQ : ClassId} {tR : Nat}  {ix : Nat → Int32} {pw : Nat → Int32} {sg : Nat → Int32} {tm : Nat → Int32} {hd : Nat → Nat → Int32} {wk : Nat → Int64} {rc : Nat → Int64} {lc : Nat → Int64} {P : Nat} {D : Nat} {x : Int} {what : Int} (hxr : -2147483648 ≤ x ∧ x < 2147483648) (hwr : -2147483648 ≤ what ∧ what < 2147483648) (hP1 : okP P) (hD1 : 1 ≤ D ∧ D ≤ 12) (hix : ∀ y, 1 ≤ y → y < P → ix y = nI (ixN P y)) : CTi l yX0_rest wsX0_rest ({ frames := 1, cells := 0, slots := 0, locals := 22 } : Room) dd (tysA cI cL cQ) (rX tR) [.ref (ad 0), .int (zI (x)), .int (zI (what))] (wC ad cI cL cQ (ix) (pw) (sg) (tm) (hd) (wk) (rc) (lc) (P) ((rootN P)) (D) ((phN D))) (fun (r : Int32) (u : Unit) => r = restS P D x what) (fun (_ : Unit) => (wC ad cI cL cQ (ix) (pw) (sg) (tm) (hd) (wk) (rc) (lc) (P) ((rootN P)) (D) ((phN D)))) := by
  refine CTi_of (cc := cX0_rest) (maxL := 4) (by decide +kernel) rfl (Nat.le_of_ble_eq_true rfl) ?_
  intro p e s m args below meth c A Q ls H locs hx hb hts hown hml hP hK hD hS hA hX hl hret
  have hin : ∀ w ∈ wsX00, w ∈ wsX0_rest := by decide +kernel
  have hl : lv_has ls 4 [(0, .ref (ad 0)), (1, .int (zI (x))), (2, .int (zI (what)))] := hl
  obtain ⟨o1, o2, o3, o4, o5, o6⟩ := id hP1
  have hph := ph_rng D (by omega) hD1.1
  have hm := fmN_lt x (show 0 < P by omega)
  have hlt := ixN_le P (fmN x P)
  refine lv_iload_n (pc := 0) hx hb dX0_rest_0 rfl (lv_at hl 2 rfl) ?_
  refine zv_if_lt (pc := 1) (tgt := 9) hx hb (by omega) dX0_rest_1 (by decide) (fun h1 => ?_) (fun h1 => ?_)
  · skip
    refine lv_bipush (pc := 9) (v := zI (-3)) hx hb dX0_rest_9 (by decide) ?_
    exact hret _ _ _ _ _ (()) (by unfold restS; rw [if_neg (by omega)]) hP hD hS dX0_rest_11
  · skip
    refine lv_iload_n (pc := 4) hx hb dX0_rest_4 rfl (lv_at hl 2 rfl) ?_
    refine nv_iconst (pc := 5) (k := 1) hx hb dX0_rest_5 rfl ?_
    refine zv_2 (pc := 6) (a := ((1 : Nat) : Int)) (b := what) ((nI_zI _)) (rfl) ?_
    refine zv_icmp_le (pc := 6) (tgt := 12) hx hb (by omega) (by omega) dX0_rest_6 (by decide) (fun h6 => ?_) (fun h6 => ?_)
    · skip
      refine lv_iload_n (pc := 12) hx hb dX0_rest_12 rfl (lv_at hl 1 rfl) ?_
      refine lv_aload_n (pc := 13) hx hb dX0_rest_13 rfl (lv_at hl 0 rfl) ?_
      refine va_get (pc := 14) (D := dd) (ci := 0) (v := .int (nI (P))) (C := RX0) (T := TX0) (N := 12) hx hb hts hin hown hK hP 0 rfl rfl 8 (by decide) (hts (.fieldLink RX0 49 "TurningSums" "p" "I") (by decide +kernel)) (fun _ h9 => h9) rfl dX0_rest_14 ?_
      refine CTi_S0 (pc := 17) am_no_ok (As := [.int (zI (x)), .int (nI (P))]) (rest := []) ⟨hx, hb, hml, hown, hts⟩ (c_J9_floorMod_7cf53 l dd (by omega) (by omega) (by omega)) (va_cwS 2 hts gX0_rest_J9_floorMod_7cf53 rfl rfl rfl (by decide +kernel) ⟨Nat.le_of_ble_eq_true rfl, Nat.le_of_ble_eq_true rfl⟩) hK hP hD hS hA trivial rfl hl.1 rfl (Nat.le_of_ble_eq_true rfl) ⟨Nat.zero_le _, Nat.zero_le _⟩ dX0_rest_17 (fun r u H locs hw hP hD hS => ?_)
      try dsimp only at hw
      subst hw
      refine lv_istore_n (pc := 20) (lv' := [(3, .int (nI ((fmN (x) (P))))), (0, .ref (ad 0)), (1, .int (zI (x))), (2, .int (zI (what)))]) hx hb dX0_rest_20 rfl hl (by decide) rfl (fun ls hl => ?_)
      refine lv_iload_n (pc := 21) hx hb dX0_rest_21 rfl (lv_at hl 0 rfl) ?_
      refine nv_if_ne (pc := 22) (tgt := 27) hx hb (a := (fmN (x) (P))) (by omega) dX0_rest_22 (by decide) (fun h22 => ?_) (fun h22 => ?_)
      · skip
        refine lv_iload_n (pc := 27) hx hb dX0_rest_27 rfl (lv_at hl 3 rfl) ?_
        refine zv_if_ne (pc := 28) (tgt := 40) hx hb (by omega) dX0_rest_28 (by decide) (fun h28 => ?_) (fun h28 => ?_)
        · skip
          refine lv_aload_n (pc := 40) hx hb dX0_rest_40 rfl (lv_at hl 1 rfl) ?_
          refine lv_iload_n (pc := 41) hx hb dX0_rest_41 rfl (lv_at hl 0 rfl) ?_
          refine CTi_Vw (pc := 42) (rX_ok tR) (As := [.int (nI ((fmN (x) (P))))]) (rest := []) ⟨hx, hb, hml, hown, hts⟩ (c_X0_classOf l dd ⟨o1, o2, hD1.1, hD1.2, hix⟩ (by rw [Nat.mod_eq_of_lt hm]; exact h22) (by omega)) (cwV 1 hts gX0_rest_X0_classOf rfl rfl rfl (by decide +kernel) ⟨Nat.le_of_ble_eq_true rfl, Nat.le_of_ble_eq_true rfl⟩) hK hP hD hS hA hX hK 0 0 rfl rfl rfl rfl hl.1 rfl (Nat.le_of_ble_eq_true rfl) ⟨Nat.zero_le _, Nat.zero_le _⟩ dX0_rest_42 (fun r u H locs hw hP hD hS => ?_)
          try dsimp only at hw
          subst hw
          exact hret _ _ _ _ _ (()) (by unfold restS; rw [if_pos (by omega), if_neg h22, if_neg h28]) hP hD hS dX0_rest_45
        · skip
          refine lv_aload_n (pc := 31) hx hb dX0_rest_31 rfl (lv_at hl 1 rfl) ?_
          refine va_get (pc := 32) (D := dd) (ci := 0) (v := .ref (ad 1)) (C := RX0) (T := TX0) (N := 12) hx hb hts hin hown hK hP 0 rfl rfl 0 (by decide) (hts (.fieldLink RX0 9 "TurningSums" "indexOf" "[I") (by decide +kernel)) (fun _ h9 => h9) rfl dX0_rest_32 ?_
          refine lv_iload_n (pc := 35) hx hb dX0_rest_35 rfl (lv_at hl 0 rfl) ?_
          refine nv_iald (pc := 36) hx hb hK hP 1 0 rfl rfl (i := (fmN (x) (P))) (by omega) (by decide) (v := nI ((ixN P ((fmN (x) (P)))))) (hix _ (by omega) (by omega)) dX0_rest_36 ?_
          refine lv_goto (pc := 37) (tgt := 45) hx hb dX0_rest_37 (by decide) ?_
          exact hret _ _ _ _ _ (()) (by unfold restS; rw [if_pos (by omega), if_neg h22, if_pos h28]) hP hD hS dX0_rest_45
      · skip
        refine lv_iconst (pc := 25) (v := zI (-1)) hx hb dX0_rest_25 rfl ?_
        exact hret _ _ _ _ _ (()) (by unfold restS; rw [if_pos (by omega), if_pos h22]) hP hD hS dX0_rest_26
    · skip
      refine lv_bipush (pc := 9) (v := zI (-3)) hx hb dX0_rest_9 (by decide) ?_
      exact hret _ _ _ _ _ (()) (by unfold restS; rw [if_neg (by omega)]) hP hD hS dX0_rest_11
set_option maxHeartbeats 4000000 in
set_option maxRecDepth 100000 in
theorem c_X1_rest (l : Launch) (dd : va_G) {ad : Nat → Nat} {cI cL cQ : ClassId}  {P : Nat} {D : Nat} {ix : Nat → Int32} {ho : Nat → Int64} {re : Nat → Int32} {wk : Nat → Int64} {tu : Nat → Int64} {wa : Nat → Int64} {nx : Nat → Int64} {x : Int} {what : Int} (hxr : -2147483648 ≤ x ∧ x < 2147483648) (hwr : -2147483648 ≤ what ∧ what < 2147483648) (hP1 : okP P) (hD1 : 1 ≤ D ∧ D ≤ 12) (hix : ∀ y, 1 ≤ y → y < P → ix y = nI (ixN P y)) : CTi l yX1_rest wsX1_rest ({ frames := 1, cells := 0, slots := 0, locals := 25 } : Room) dd (tysA cI cL cQ) (am_no) [.ref (ad 0), .int (zI (x)), .int (zI (what))] (wM ad cI cL (P) ((rootN P)) (D) ((phN D)) (ix) (ho) (re) (wk) (tu) (wa) (nx)) (fun (r : Int32) (u : Unit) => r = restS P D x what) (fun (_ : Unit) => (wM ad cI cL (P) ((rootN P)) (D) ((phN D)) (ix) (ho) (re) (wk) (tu) (wa) (nx))) := by
  refine CTi_of (cc := cX1_rest) (maxL := 4) (by decide +kernel) rfl (Nat.le_of_ble_eq_true rfl) ?_
  intro p e s m args below meth c A Q ls H locs hx hb hts hown hml hP hK hD hS hA hX hl hret
  have hin : ∀ w ∈ wsX10, w ∈ wsX1_rest := by decide +kernel
  have hl : lv_has ls 4 [(0, .ref (ad 0)), (1, .int (zI (x))), (2, .int (zI (what)))] := hl
  obtain ⟨o1, o2, o3, o4, o5, o6⟩ := id hP1
  have hph := ph_rng D (by omega) hD1.1
  have hm := fmN_lt x (show 0 < P by omega)
  have hlt := ixN_le P (fmN x P)
  refine lv_iload_n (pc := 0) hx hb dX1_rest_0 rfl (lv_at hl 2 rfl) ?_
  refine lv_i2l (pc := 1) (v := zL (what)) hx hb dX1_rest_1 (zL_zI (by omega) (by omega)) ?_
  refine lv_lconst (pc := 2) (v := zL 0) hx hb dX1_rest_2 (by decide) ?_
  refine lv_lconst (pc := 3) (v := zL 1) hx hb dX1_rest_3 (by decide) ?_
  refine CTi_S0 (pc := 4) am_no_ok (As := [.long (zL (what)), .long (zL 0), .long (zL 1)]) (rest := []) ⟨hx, hb, hml, hown, hts⟩ (c_X1_in l dd ) (va_cwS 3 hts gX1_rest_X1_in rfl rfl rfl (by decide +kernel) ⟨Nat.le_of_ble_eq_true rfl, Nat.le_of_ble_eq_true rfl⟩) hK hP hD hS hA hX rfl hl.1 rfl (Nat.le_of_ble_eq_true rfl) ⟨Nat.zero_le _, Nat.zero_le _⟩ dX1_rest_4 (fun r u H locs hw hP hD hS => ?_)
  try dsimp only at hw
  subst hw
  refine bv_if_ne (pc := 7) (tgt := 13) hx hb dX1_rest_7 (by decide) (fun h7 => ?_) (fun h7 => ?_)
  · skip
    rw [zL_le (by omega) (by omega), zL_le (by omega) (by omega)] at h7
    refine lv_iload_n (pc := 13) hx hb dX1_rest_13 rfl (lv_at hl 1 rfl) ?_
    refine lv_i2l (pc := 14) (v := zL (x)) hx hb dX1_rest_14 (zL_zI (by omega) (by omega)) ?_
    refine lv_aload_n (pc := 15) hx hb dX1_rest_15 rfl (lv_at hl 0 rfl) ?_
    refine va_get (pc := 16) (D := dd) (ci := 1) (v := .int (nI (P))) (C := RX1) (T := TX1) (N := 11) hx hb hts hin hown hK hP 0 rfl rfl 0 (by decide) (hts (.fieldLink RX1 42 "TurningSumsModel" "p" "I") (by decide +kernel)) (fun _ h9 => h9) rfl dX1_rest_16 ?_
    refine CTi_S0 (pc := 19) am_no_ok (As := [.long (zL (x)), .int (nI (P))]) (rest := []) ⟨hx, hb, hml, hown, hts⟩ (c_X1_rem l dd (by omega) (by omega) (by omega)) (va_cwS 2 hts gX1_rest_X1_rem rfl rfl rfl (by decide +kernel) ⟨Nat.le_of_ble_eq_true rfl, Nat.le_of_ble_eq_true rfl⟩) hK hP hD hS hA hX rfl hl.1 rfl (Nat.le_of_ble_eq_true rfl) ⟨Nat.zero_le _, Nat.zero_le _⟩ dX1_rest_19 (fun r u H locs hw hP hD hS => ?_)
    try dsimp only at hw
    subst hw
    refine lv_istore_n (pc := 22) (lv' := [(3, .int (nI ((fmN ((x)) (P))))), (0, .ref (ad 0)), (1, .int (zI (x))), (2, .int (zI (what)))]) hx hb dX1_rest_22 rfl hl (by decide) rfl (fun ls hl => ?_)
    refine lv_iload_n (pc := 23) hx hb dX1_rest_23 rfl (lv_at hl 0 rfl) ?_
    refine nv_if_ne (pc := 24) (tgt := 31) hx hb (a := (fmN ((x)) (P))) (by omega) dX1_rest_24 (by decide) (fun h24 => ?_) (fun h24 => ?_)
    · skip
      refine lv_iload_n (pc := 31) hx hb dX1_rest_31 rfl (lv_at hl 3 rfl) ?_
      refine zv_if_ne (pc := 32) (tgt := 44) hx hb (by omega) dX1_rest_32 (by decide) (fun h32 => ?_) (fun h32 => ?_)
      · skip
        refine lv_aload_n (pc := 44) hx hb dX1_rest_44 rfl (lv_at hl 1 rfl) ?_
        refine va_get (pc := 45) (D := dd) (ci := 1) (v := .ref (ad 1)) (C := RX1) (T := TX1) (N := 11) hx hb hts hin hown hK hP 0 rfl rfl 4 (by decide) (hts (.fieldLink RX1 7 "TurningSumsModel" "index" "[I") (by decide +kernel)) (fun _ h9 => h9) rfl dX1_rest_45 ?_
        refine lv_iload_n (pc := 48) hx hb dX1_rest_48 rfl (lv_at hl 0 rfl) ?_
        refine nv_iald (pc := 49) hx hb hK hP 1 0 rfl rfl (i := (fmN ((x)) (P))) (by omega) (by decide) (v := nI ((ixN P ((fmN ((x)) (P)))))) (hix _ (by omega) (by omega)) dX1_rest_49 ?_
        refine lv_aload_n (pc := 50) hx hb dX1_rest_50 rfl (lv_at hl 1 rfl) ?_
        refine va_get (pc := 51) (D := dd) (ci := 1) (v := .int (nI (D))) (C := RX1) (T := TX1) (N := 11) hx hb hts hin hown hK hP 0 rfl rfl 2 (by decide) (hts (.fieldLink RX1 52 "TurningSumsModel" "d" "I") (by decide +kernel)) (fun _ h9 => h9) rfl dX1_rest_51 ?_
        refine nv_irem (pc := 54) hx hb (by omega) (by omega) (by omega) dX1_rest_54 ?_
        exact hret _ _ _ _ _ (()) (by unfold restS; rw [if_pos (by omega), if_neg h24, if_neg h32]; unfold clsN; rw [Nat.mod_eq_of_lt hm]) hP hD hS dX1_rest_55
      · skip
        refine lv_aload_n (pc := 35) hx hb dX1_rest_35 rfl (lv_at hl 1 rfl) ?_
        refine va_get (pc := 36) (D := dd) (ci := 1) (v := .ref (ad 1)) (C := RX1) (T := TX1) (N := 11) hx hb hts hin hown hK hP 0 rfl rfl 4 (by decide) (hts (.fieldLink RX1 7 "TurningSumsModel" "index" "[I") (by decide +kernel)) (fun _ h9 => h9) rfl dX1_rest_36 ?_
        refine lv_iload_n (pc := 39) hx hb dX1_rest_39 rfl (lv_at hl 0 rfl) ?_
        refine nv_iald (pc := 40) hx hb hK hP 1 0 rfl rfl (i := (fmN ((x)) (P))) (by omega) (by decide) (v := nI ((ixN P ((fmN ((x)) (P)))))) (hix _ (by omega) (by omega)) dX1_rest_40 ?_
        refine lv_goto (pc := 41) (tgt := 55) hx hb dX1_rest_41 (by decide) ?_
        exact hret _ _ _ _ _ (()) (by unfold restS; rw [if_pos (by omega), if_neg h24, if_pos h32]) hP hD hS dX1_rest_55
    · skip
      refine lv_iconst (pc := 27) (v := zI (-1)) hx hb dX1_rest_27 rfl ?_
      refine lv_goto (pc := 28) (tgt := 55) hx hb dX1_rest_28 (by decide) ?_
      exact hret _ _ _ _ _ (()) (by unfold restS; rw [if_pos (by omega), if_pos h24]) hP hD hS dX1_rest_55
  · skip
    rw [zL_le (by omega) (by omega), zL_le (by omega) (by omega)] at h7
    refine lv_bipush (pc := 10) (v := zI (-3)) hx hb dX1_rest_10 (by decide) ?_
    exact hret _ _ _ _ _ (()) (by unfold restS; rw [if_neg (by omega)]) hP hD hS dX1_rest_12
set_option maxHeartbeats 4000000 in
set_option maxRecDepth 100000 in
theorem c_X0_meeting (l : Launch) (dd : va_G) {ad : Nat → Nat} {cI cL cQ : ClassId} {tR : Nat}  {ix : Nat → Int32} {pw : Nat → Int32} {sg : Nat → Int32} {tm : Nat → Int32} {hd : Nat → Nat → Int32} {wk : Nat → Int64} {rc : Nat → Int64} {lc : Nat → Int64} {P : Nat} {D : Nat} {i : Int} {j : Int} (hir : -2147483648 ≤ i ∧ i < 2147483648) (hjr : -2147483648 ≤ j ∧ j < 2147483648) (hP1 : okP P) (hD1 : 1 ≤ D ∧ D ≤ 12) (hix : ∀ y, 1 ≤ y → y < P → ix y = nI (ixN P y)) : CTi l yX0_meeting wsX0_meeting ({ frames := 1, cells := 0, slots := 0, locals := 21 } : Room) dd (tysA cI cL cQ) (rX tR) [.ref (ad 0), .int (zI (i)), .int (zI (j))] (wC ad cI cL cQ (ix) (pw) (sg) (tm) (hd) (wk) (rc) (lc) (P) ((rootN P)) (D) ((phN D))) (fun (r : Int32) (u : Unit) => r = mtS P D i j) (fun (_ : Unit) => (wC ad cI cL cQ (ix) (pw) (sg) (tm) (hd) (wk) (rc) (lc) (P) ((rootN P)) (D) ((phN D)))) := by
  refine CTi_of (cc := cX0_meeting) (maxL := 5) (by decide +kernel) rfl (Nat.le_of_ble_eq_true rfl) ?_
  intro p e s m args below meth c A Q ls H locs hx hb hts hown hml hP hK hD hS hA hX hl hret
  have hin : ∀ w ∈ wsX00, w ∈ wsX0_meeting := by decide +kernel
  have hl : lv_has ls 5 [(0, .ref (ad 0)), (1, .int (zI (i))), (2, .int (zI (j)))] := hl
  obtain ⟨o1, o2, o3, o4, o5, o6⟩ := id hP1
  have hph := ph_rng D (by omega) hD1.1
  refine lv_aload_n (pc := 0) hx hb dX0_meeting_0 rfl (lv_at hl 0 rfl) ?_
  refine lv_iload_n (pc := 1) hx hb dX0_meeting_1 rfl (lv_at hl 1 rfl) ?_
  refine CTi_Vw (pc := 2) (rX_ok tR) (As := [.int (zI (i))]) (rest := []) ⟨hx, hb, hml, hown, hts⟩ (c_X0_isClass l dd (by omega) (by omega)) (cwV 1 hts gX0_meeting_X0_isClass rfl rfl rfl (by decide +kernel) ⟨Nat.le_of_ble_eq_true rfl, Nat.le_of_ble_eq_true rfl⟩) hK hP hD hS hA hX hK 0 0 rfl rfl rfl rfl hl.1 rfl (Nat.le_of_ble_eq_true rfl) ⟨Nat.zero_le _, Nat.zero_le _⟩ dX0_meeting_2 (fun r u H locs hw hP hD hS => ?_)
  try dsimp only at hw
  subst hw
  refine bv_if_eq (pc := 5) (tgt := 16) hx hb dX0_meeting_5 (by decide) (fun h5 => ?_) (fun h5 => ?_)
  · skip
    refine lv_bipush (pc := 16) (v := zI (-2)) hx hb dX0_meeting_16 (by decide) ?_
    exact hret _ _ _ _ _ (()) (by unfold mtS; rw [if_neg (by omega)]) hP hD hS dX0_meeting_18
  · skip
    refine lv_aload_n (pc := 8) hx hb dX0_meeting_8 rfl (lv_at hl 0 rfl) ?_
    refine lv_iload_n (pc := 9) hx hb dX0_meeting_9 rfl (lv_at hl 2 rfl) ?_
    refine CTi_Vw (pc := 10) (rX_ok tR) (As := [.int (zI (j))]) (rest := []) ⟨hx, hb, hml, hown, hts⟩ (c_X0_isClass l dd (by omega) (by omega)) (cwV 1 hts gX0_meeting_X0_isClass rfl rfl rfl (by decide +kernel) ⟨Nat.le_of_ble_eq_true rfl, Nat.le_of_ble_eq_true rfl⟩) hK hP hD hS hA hX hK 0 0 rfl rfl rfl rfl hl.1 rfl (Nat.le_of_ble_eq_true rfl) ⟨Nat.zero_le _, Nat.zero_le _⟩ dX0_meeting_10 (fun r u H locs hw hP hD hS => ?_)
    try dsimp only at hw
    subst hw
    refine bv_if_ne (pc := 13) (tgt := 19) hx hb dX0_meeting_13 (by decide) (fun h13 => ?_) (fun h13 => ?_)
    · skip
      refine nv_iconst (pc := 19) (k := 0) hx hb dX0_meeting_19 rfl ?_
      refine lv_istore_n (pc := 20) (lv' := [(3, .int (nI (0))), (0, .ref (ad 0)), (1, .int (zI (i))), (2, .int (zI (j)))]) hx hb dX0_meeting_20 rfl hl (by decide) rfl (fun ls hl => ?_)
      refine nv_iconst (pc := 21) (k := 1) hx hb dX0_meeting_21 rfl ?_
      refine lv_istore (pc := 22) (lv' := [(4, .int (nI (1))), (3, .int (nI (0))), (0, .ref (ad 0)), (1, .int (zI (i))), (2, .int (zI (j)))]) hx hb dX0_meeting_22 hl (by decide) rfl (fun ls hl => ?_)
      have L24 : ∀ (n9_24 : Nat), ∀ (x : Nat) (n : Nat), P - x < n9_24 → (1 ≤ x ∧ x ≤ P - 1) → (n = mtC P D i j x) → ∀ (H : Heap) (locs : List Loc) (ls : Array Slot), va_P dd vwCl (wC ad cI cL cQ (ix) (pw) (sg) (tm) (hd) (wk) (rc) (lc) (P) ((rootN P)) (D) ((phN D))) H → va_D A (wC ad cI cL cQ (ix) (pw) (sg) (tm) (hd) (wk) (rc) (lc) (P) ((rootN P)) (D) ((phN D))) → va_S A s.heap H locs → lv_has ls 5 [(0, .ref (ad 0)), (1, .int (zI (i))), (2, .int (zI (j))), (3, .int (nI (n))), (4, .int (nI (x)))] → W p l e ({ frames := 1, cells := 0, slots := 0, locals := 21 } : Room) s m args below meth c H locs 0 0 Q (F0 m 24 ls []) := by
        intro n9_24
        induction n9_24 with
        | zero => intro x n hm; exact absurd hm (Nat.not_lt_zero _)
        | succ n9_24 ih_24 =>
          intro x n hm_24 hx9 hn H locs ls hP hD hS hl
          have hb9 := mtC_le P D i j x
          have hc1 : clsN P D x < D := Nat.mod_lt _ (by omega)
          have hc2 : clsN P D (x + 1) < D := Nat.mod_lt _ (by omega)
          refine lv_iload (pc := 24) hx hb dX0_meeting_24 (lv_at hl 4 rfl) ?_
          refine lv_aload_n (pc := 26) hx hb dX0_meeting_26 rfl (lv_at hl 0 rfl) ?_
          refine va_get (pc := 27) (D := dd) (ci := 0) (v := .int (nI (P))) (C := RX0) (T := TX0) (N := 12) hx hb hts hin hown hK hP 0 rfl rfl 8 (by decide) (hts (.fieldLink RX0 49 "TurningSums" "p" "I") (by decide +kernel)) (fun _ h9 => h9) rfl dX0_meeting_27 ?_
          refine nv_iconst (pc := 30) (k := 1) hx hb dX0_meeting_30 rfl ?_
          refine nv_isub (pc := 31) hx hb (by omega) dX0_meeting_31 ?_
          refine nv_icmp_ge (pc := 32) (tgt := 66) hx hb (a := x) (b := (P - 1)) (by omega) (by omega) dX0_meeting_32 (by decide) (fun h32 => ?_) (fun h32 => ?_)
          · skip
            refine lv_iload_n (pc := 66) hx hb dX0_meeting_66 rfl (lv_at hl 3 rfl) ?_
            exact hret _ _ _ _ _ (()) (by unfold mtS; rw [if_pos (by omega), hn, show x = P - 1 by omega]) hP hD hS dX0_meeting_67
          · skip
            refine lv_aload_n (pc := 35) hx hb dX0_meeting_35 rfl (lv_at hl 0 rfl) ?_
            refine lv_iload (pc := 36) hx hb dX0_meeting_36 (lv_at hl 4 rfl) ?_
            refine CTi_Vw (pc := 38) (rX_ok tR) (As := [.int (nI (x))]) (rest := []) ⟨hx, hb, hml, hown, hts⟩ (c_X0_classOf l dd ⟨o1, o2, hD1.1, hD1.2, hix⟩ (by rw [Nat.mod_eq_of_lt (by omega)]; omega) (by omega)) (cwV 1 hts gX0_meeting_X0_classOf rfl rfl rfl (by decide +kernel) ⟨Nat.le_of_ble_eq_true rfl, Nat.le_of_ble_eq_true rfl⟩) hK hP hD hS hA hX hK 0 0 rfl rfl rfl rfl hl.1 rfl (Nat.le_of_ble_eq_true rfl) ⟨Nat.zero_le _, Nat.zero_le _⟩ dX0_meeting_38 (fun r u H locs hw hP hD hS => ?_)
            try dsimp only at hw
            subst hw
            refine lv_iload_n (pc := 41) hx hb dX0_meeting_41 rfl (lv_at hl 1 rfl) ?_
            refine zv_2 (pc := 42) (a := i) (b := (((clsN P D (x)) : Nat) : Int)) (rfl) ((nI_zI _)) ?_
            refine zv_icmp_ne (pc := 42) (tgt := 60) hx hb (by omega) (by omega) dX0_meeting_42 (by decide) (fun h42 => ?_) (fun h42 => ?_)
            · skip
              refine lv_iinc (pc := 60) (v := nI ((x + 1))) (lv' := [(4, .int (nI ((x + 1)))), (0, .ref (ad 0)), (1, .int (zI (i))), (2, .int (zI (j))), (3, .int (nI (n)))]) hx hb dX0_meeting_60 hl (k := 4) rfl (nI_inc _) (by decide) rfl (fun ls hl => ?_)
              refine lv_goto (pc := 63) (tgt := 24) hx hb dX0_meeting_63 (by decide) ?_
              exact ih_24 ((x + 1)) (n) (by omega) (by omega) (by rw [mtC_0 (by omega)]; exact hn) _ _ _ hP hD hS (lv_sub hl [1, 2, 3, 4, 0] rfl)
            · skip
              refine lv_aload_n (pc := 45) hx hb dX0_meeting_45 rfl (lv_at hl 0 rfl) ?_
              refine lv_iload (pc := 46) hx hb dX0_meeting_46 (lv_at hl 4 rfl) ?_
              refine nv_iconst (pc := 48) (k := 1) hx hb dX0_meeting_48 rfl ?_
              refine nv_iadd (pc := 49) hx hb dX0_meeting_49 ?_
              refine CTi_Vw (pc := 50) (rX_ok tR) (As := [.int (nI ((x + 1)))]) (rest := []) ⟨hx, hb, hml, hown, hts⟩ (c_X0_classOf l dd ⟨o1, o2, hD1.1, hD1.2, hix⟩ (by rw [Nat.mod_eq_of_lt (by omega)]; omega) (by omega)) (cwV 1 hts gX0_meeting_X0_classOf rfl rfl rfl (by decide +kernel) ⟨Nat.le_of_ble_eq_true rfl, Nat.le_of_ble_eq_true rfl⟩) hK hP hD hS hA hX hK 0 0 rfl rfl rfl rfl hl.1 rfl (Nat.le_of_ble_eq_true rfl) ⟨Nat.zero_le _, Nat.zero_le _⟩ dX0_meeting_50 (fun r u H locs hw hP hD hS => ?_)
              try dsimp only at hw
              subst hw
              refine lv_iload_n (pc := 53) hx hb dX0_meeting_53 rfl (lv_at hl 2 rfl) ?_
              refine zv_2 (pc := 54) (a := j) (b := (((clsN P D ((x + 1))) : Nat) : Int)) (rfl) ((nI_zI _)) ?_
              refine zv_icmp_ne (pc := 54) (tgt := 60) hx hb (by omega) (by omega) dX0_meeting_54 (by decide) (fun h54 => ?_) (fun h54 => ?_)
              · skip
                refine lv_iinc (pc := 60) (v := nI ((x + 1))) (lv' := [(4, .int (nI ((x + 1)))), (0, .ref (ad 0)), (1, .int (zI (i))), (2, .int (zI (j))), (3, .int (nI (n)))]) hx hb dX0_meeting_60 hl (k := 4) rfl (nI_inc _) (by decide) rfl (fun ls hl => ?_)
                refine lv_goto (pc := 63) (tgt := 24) hx hb dX0_meeting_63 (by decide) ?_
                exact ih_24 ((x + 1)) (n) (by omega) (by omega) (by rw [mtC_0 (by omega)]; exact hn) _ _ _ hP hD hS (lv_sub hl [1, 2, 3, 4, 0] rfl)
              · skip
                refine lv_iinc (pc := 57) (v := nI ((n + 1))) (lv' := [(3, .int (nI ((n + 1)))), (0, .ref (ad 0)), (1, .int (zI (i))), (2, .int (zI (j))), (4, .int (nI (x)))]) hx hb dX0_meeting_57 hl (k := 3) rfl (nI_inc _) (by decide) rfl (fun ls hl => ?_)
                refine lv_iinc (pc := 60) (v := nI ((x + 1))) (lv' := [(4, .int (nI ((x + 1)))), (3, .int (nI ((n + 1)))), (0, .ref (ad 0)), (1, .int (zI (i))), (2, .int (zI (j)))]) hx hb dX0_meeting_60 hl (k := 4) rfl (nI_inc _) (by decide) rfl (fun ls hl => ?_)
                refine lv_goto (pc := 63) (tgt := 24) hx hb dX0_meeting_63 (by decide) ?_
                exact ih_24 ((x + 1)) ((n + 1)) (by omega) (by omega) (by rw [mtC_1 ⟨by omega, by omega, by omega⟩, hn]) _ _ _ hP hD hS (lv_sub hl [2, 3, 4, 1, 0] rfl)
      exact L24 _ (1) (0) (Nat.lt_succ_self _) (by omega) (rfl) _ _ _ hP hD hS (lv_sub hl [2, 3, 4, 1, 0] rfl)
    · skip
      refine lv_bipush (pc := 16) (v := zI (-2)) hx hb dX0_meeting_16 (by decide) ?_
      exact hret _ _ _ _ _ (()) (by unfold mtS; rw [if_neg (by omega)]) hP hD hS dX0_meeting_18
set_option maxHeartbeats 4000000 in
set_option maxRecDepth 100000 in
theorem c_X1_meeting (l : Launch) (dd : va_G) {ad : Nat → Nat} {cI cL cQ : ClassId}  {P : Nat} {D : Nat} {ix : Nat → Int32} {ho : Nat → Int64} {re : Nat → Int32} {wk : Nat → Int64} {tu : Nat → Int64} {wa : Nat → Int64} {nx : Nat → Int64} {i : Int} {j : Int} (hir : -2147483648 ≤ i ∧ i < 2147483648) (hjr : -2147483648 ≤ j ∧ j < 2147483648) (hP1 : okP P) (hD1 : 1 ≤ D ∧ D ≤ 12) (hix : ∀ y, 1 ≤ y → y < P → ix y = nI (ixN P y)) : CTi l yX1_meeting wsX1_meeting ({ frames := 1, cells := 0, slots := 0, locals := 25 } : Room) dd (tysA cI cL cQ) (am_no) [.ref (ad 0), .int (zI (i)), .int (zI (j))] (wM ad cI cL (P) ((rootN P)) (D) ((phN D)) (ix) (ho) (re) (wk) (tu) (wa) (nx)) (fun (r : Int32) (u : Unit) => r = mtS P D i j) (fun (_ : Unit) => (wM ad cI cL (P) ((rootN P)) (D) ((phN D)) (ix) (ho) (re) (wk) (tu) (wa) (nx))) := by
  refine CTi_of (cc := cX1_meeting) (maxL := 5) (by decide +kernel) rfl (Nat.le_of_ble_eq_true rfl) ?_
  intro p e s m args below meth c A Q ls H locs hx hb hts hown hml hP hK hD hS hA hX hl hret
  have hin : ∀ w ∈ wsX10, w ∈ wsX1_meeting := by decide +kernel
  have hl : lv_has ls 5 [(0, .ref (ad 0)), (1, .int (zI (i))), (2, .int (zI (j)))] := hl
  obtain ⟨o1, o2, o3, o4, o5, o6⟩ := id hP1
  have hph := ph_rng D (by omega) hD1.1
  refine lv_iload_n (pc := 0) hx hb dX1_meeting_0 rfl (lv_at hl 1 rfl) ?_
  refine lv_i2l (pc := 1) (v := zL (i)) hx hb dX1_meeting_1 (zL_zI (by omega) (by omega)) ?_
  refine lv_lconst (pc := 2) (v := zL 0) hx hb dX1_meeting_2 (by decide) ?_
  refine lv_aload_n (pc := 3) hx hb dX1_meeting_3 rfl (lv_at hl 0 rfl) ?_
  refine va_get (pc := 4) (D := dd) (ci := 1) (v := .int (nI (D))) (C := RX1) (T := TX1) (N := 11) hx hb hts hin hown hK hP 0 rfl rfl 2 (by decide) (hts (.fieldLink RX1 52 "TurningSumsModel" "d" "I") (by decide +kernel)) (fun _ h9 => h9) rfl dX1_meeting_4 ?_
  refine nv_iconst (pc := 7) (k := 1) hx hb dX1_meeting_7 rfl ?_
  refine nv_isub (pc := 8) hx hb (by omega) dX1_meeting_8 ?_
  refine lv_i2l (pc := 9) (v := zL (((D - 1) : Nat) : Int)) hx hb dX1_meeting_9 (zL_nI (by omega)) ?_
  refine CTi_S0 (pc := 10) am_no_ok (As := [.long (zL (i)), .long (zL 0), .long (zL (((D - 1) : Nat) : Int))]) (rest := []) ⟨hx, hb, hml, hown, hts⟩ (c_X1_in l dd ) (va_cwS 3 hts gX1_meeting_X1_in rfl rfl rfl (by decide +kernel) ⟨Nat.le_of_ble_eq_true rfl, Nat.le_of_ble_eq_true rfl⟩) hK hP hD hS hA hX rfl hl.1 rfl (Nat.le_of_ble_eq_true rfl) ⟨Nat.zero_le _, Nat.zero_le _⟩ dX1_meeting_10 (fun r u H locs hw hP hD hS => ?_)
  try dsimp only at hw
  subst hw
  refine bv_if_eq (pc := 13) (tgt := 32) hx hb dX1_meeting_13 (by decide) (fun h13 => ?_) (fun h13 => ?_)
  · skip
    rw [zL_le (by omega) (by omega), zL_le (by omega) (by omega)] at h13
    refine lv_bipush (pc := 32) (v := zI (-2)) hx hb dX1_meeting_32 (by decide) ?_
    exact hret _ _ _ _ _ (()) (by unfold mtS; rw [if_neg (by omega)]) hP hD hS dX1_meeting_34
  · skip
    rw [zL_le (by omega) (by omega), zL_le (by omega) (by omega)] at h13
    refine lv_iload_n (pc := 16) hx hb dX1_meeting_16 rfl (lv_at hl 2 rfl) ?_
    refine lv_i2l (pc := 17) (v := zL (j)) hx hb dX1_meeting_17 (zL_zI (by omega) (by omega)) ?_
    refine lv_lconst (pc := 18) (v := zL 0) hx hb dX1_meeting_18 (by decide) ?_
    refine lv_aload_n (pc := 19) hx hb dX1_meeting_19 rfl (lv_at hl 0 rfl) ?_
    refine va_get (pc := 20) (D := dd) (ci := 1) (v := .int (nI (D))) (C := RX1) (T := TX1) (N := 11) hx hb hts hin hown hK hP 0 rfl rfl 2 (by decide) (hts (.fieldLink RX1 52 "TurningSumsModel" "d" "I") (by decide +kernel)) (fun _ h9 => h9) rfl dX1_meeting_20 ?_
    refine nv_iconst (pc := 23) (k := 1) hx hb dX1_meeting_23 rfl ?_
    refine nv_isub (pc := 24) hx hb (by omega) dX1_meeting_24 ?_
    refine lv_i2l (pc := 25) (v := zL (((D - 1) : Nat) : Int)) hx hb dX1_meeting_25 (zL_nI (by omega)) ?_
    refine CTi_S0 (pc := 26) am_no_ok (As := [.long (zL (j)), .long (zL 0), .long (zL (((D - 1) : Nat) : Int))]) (rest := []) ⟨hx, hb, hml, hown, hts⟩ (c_X1_in l dd ) (va_cwS 3 hts gX1_meeting_X1_in rfl rfl rfl (by decide +kernel) ⟨Nat.le_of_ble_eq_true rfl, Nat.le_of_ble_eq_true rfl⟩) hK hP hD hS hA hX rfl hl.1 rfl (Nat.le_of_ble_eq_true rfl) ⟨Nat.zero_le _, Nat.zero_le _⟩ dX1_meeting_26 (fun r u H locs hw hP hD hS => ?_)
    try dsimp only at hw
    subst hw
    refine bv_if_ne (pc := 29) (tgt := 35) hx hb dX1_meeting_29 (by decide) (fun h29 => ?_) (fun h29 => ?_)
    · skip
      rw [zL_le (by omega) (by omega), zL_le (by omega) (by omega)] at h29
      refine nv_iconst (pc := 35) (k := 0) hx hb dX1_meeting_35 rfl ?_
      refine lv_istore_n (pc := 36) (lv' := [(3, .int (nI (0))), (0, .ref (ad 0)), (1, .int (zI (i))), (2, .int (zI (j)))]) hx hb dX1_meeting_36 rfl hl (by decide) rfl (fun ls hl => ?_)
      refine nv_iconst (pc := 37) (k := 1) hx hb dX1_meeting_37 rfl ?_
      refine lv_istore (pc := 38) (lv' := [(4, .int (nI (1))), (3, .int (nI (0))), (0, .ref (ad 0)), (1, .int (zI (i))), (2, .int (zI (j)))]) hx hb dX1_meeting_38 hl (by decide) rfl (fun ls hl => ?_)
      have L40 : ∀ (n9_40 : Nat), ∀ (x : Nat) (n : Nat), P - x < n9_40 → (1 ≤ x ∧ x ≤ P - 1) → (n = mtC P D i j x) → ∀ (H : Heap) (locs : List Loc) (ls : Array Slot), va_P dd vwCl (wM ad cI cL (P) ((rootN P)) (D) ((phN D)) (ix) (ho) (re) (wk) (tu) (wa) (nx)) H → va_D A (wM ad cI cL (P) ((rootN P)) (D) ((phN D)) (ix) (ho) (re) (wk) (tu) (wa) (nx)) → va_S A s.heap H locs → lv_has ls 5 [(0, .ref (ad 0)), (1, .int (zI (i))), (2, .int (zI (j))), (3, .int (nI (n))), (4, .int (nI (x)))] → W p l e ({ frames := 1, cells := 0, slots := 0, locals := 25 } : Room) s m args below meth c H locs 0 0 Q (F0 m 40 ls []) := by
        intro n9_40
        induction n9_40 with
        | zero => intro x n hm; exact absurd hm (Nat.not_lt_zero _)
        | succ n9_40 ih_40 =>
          intro x n hm_40 hx9 hn H locs ls hP hD hS hl
          have hb9 := mtC_le P D i j x
          have hc1 : clsN P D x < D := Nat.mod_lt _ (by omega)
          have hc2 : clsN P D (x + 1) < D := Nat.mod_lt _ (by omega)
          refine lv_iload (pc := 40) hx hb dX1_meeting_40 (lv_at hl 4 rfl) ?_
          refine lv_aload_n (pc := 42) hx hb dX1_meeting_42 rfl (lv_at hl 0 rfl) ?_
          refine va_get (pc := 43) (D := dd) (ci := 1) (v := .int (nI (P))) (C := RX1) (T := TX1) (N := 11) hx hb hts hin hown hK hP 0 rfl rfl 0 (by decide) (hts (.fieldLink RX1 42 "TurningSumsModel" "p" "I") (by decide +kernel)) (fun _ h9 => h9) rfl dX1_meeting_43 ?_
          refine nv_iconst (pc := 46) (k := 1) hx hb dX1_meeting_46 rfl ?_
          refine nv_isub (pc := 47) hx hb (by omega) dX1_meeting_47 ?_
          refine nv_icmp_ge (pc := 48) (tgt := 87) hx hb (a := x) (b := (P - 1)) (by omega) (by omega) dX1_meeting_48 (by decide) (fun h48 => ?_) (fun h48 => ?_)
          · skip
            refine lv_iload_n (pc := 87) hx hb dX1_meeting_87 rfl (lv_at hl 3 rfl) ?_
            exact hret _ _ _ _ _ (()) (by unfold mtS; rw [if_pos (by omega), hn, show x = P - 1 by omega]) hP hD hS dX1_meeting_88
          · skip
            refine lv_iload_n (pc := 51) hx hb dX1_meeting_51 rfl (lv_at hl 3 rfl) ?_
            refine lv_aload_n (pc := 52) hx hb dX1_meeting_52 rfl (lv_at hl 0 rfl) ?_
            refine lv_iload (pc := 53) hx hb dX1_meeting_53 (lv_at hl 4 rfl) ?_
            refine CTi_Vw (pc := 55) am_no_ok (As := [.int (nI (x))]) (rest := [.int (nI (n))]) ⟨hx, hb, hml, hown, hts⟩ (c_X1_classOf l dd ⟨o1, o2, hD1.1, hD1.2, hix⟩ (by omega) (by omega)) (cwV 1 hts gX1_meeting_X1_classOf rfl rfl rfl (by decide +kernel) ⟨Nat.le_of_ble_eq_true rfl, Nat.le_of_ble_eq_true rfl⟩) hK hP hD hS hA hX hK 0 1 rfl rfl rfl rfl hl.1 rfl (Nat.le_of_ble_eq_true rfl) ⟨Nat.zero_le _, Nat.zero_le _⟩ dX1_meeting_55 (fun r u H locs hw hP hD hS => ?_)
            try dsimp only at hw
            subst hw
            refine lv_iload_n (pc := 58) hx hb dX1_meeting_58 rfl (lv_at hl 1 rfl) ?_
            refine zv_2 (pc := 59) (a := i) (b := (((clsN P D (x)) : Nat) : Int)) (rfl) ((nI_zI _)) ?_
            refine zv_icmp_ne (pc := 59) (tgt := 78) hx hb (by omega) (by omega) dX1_meeting_59 (by decide) (fun h59 => ?_) (fun h59 => ?_)
            · skip
              refine nv_iconst (pc := 78) (k := 0) hx hb dX1_meeting_78 rfl ?_
              refine nv_iadd (pc := 79) hx hb dX1_meeting_79 ?_
              refine lv_istore_n (pc := 80) (lv' := [(3, .int (nI ((n + 0)))), (0, .ref (ad 0)), (1, .int (zI (i))), (2, .int (zI (j))), (4, .int (nI (x)))]) hx hb dX1_meeting_80 rfl hl (by decide) rfl (fun ls hl => ?_)
              refine lv_iinc (pc := 81) (v := nI ((x + 1))) (lv' := [(4, .int (nI ((x + 1)))), (3, .int (nI ((n + 0)))), (0, .ref (ad 0)), (1, .int (zI (i))), (2, .int (zI (j)))]) hx hb dX1_meeting_81 hl (k := 4) rfl (nI_inc _) (by decide) rfl (fun ls hl => ?_)
              refine lv_goto (pc := 84) (tgt := 40) hx hb dX1_meeting_84 (by decide) ?_
              exact ih_40 ((x + 1)) ((n + 0)) (by omega) (by omega) (by rw [mtC_0 (by omega)]; exact hn) _ _ _ hP hD hS (lv_sub hl [2, 3, 4, 1, 0] rfl)
            · skip
              refine lv_aload_n (pc := 62) hx hb dX1_meeting_62 rfl (lv_at hl 0 rfl) ?_
              refine lv_iload (pc := 63) hx hb dX1_meeting_63 (lv_at hl 4 rfl) ?_
              refine nv_iconst (pc := 65) (k := 1) hx hb dX1_meeting_65 rfl ?_
              refine nv_iadd (pc := 66) hx hb dX1_meeting_66 ?_
              refine CTi_Vw (pc := 67) am_no_ok (As := [.int (nI ((x + 1)))]) (rest := [.int (nI (n))]) ⟨hx, hb, hml, hown, hts⟩ (c_X1_classOf l dd ⟨o1, o2, hD1.1, hD1.2, hix⟩ (by omega) (by omega)) (cwV 1 hts gX1_meeting_X1_classOf rfl rfl rfl (by decide +kernel) ⟨Nat.le_of_ble_eq_true rfl, Nat.le_of_ble_eq_true rfl⟩) hK hP hD hS hA hX hK 0 1 rfl rfl rfl rfl hl.1 rfl (Nat.le_of_ble_eq_true rfl) ⟨Nat.zero_le _, Nat.zero_le _⟩ dX1_meeting_67 (fun r u H locs hw hP hD hS => ?_)
              try dsimp only at hw
              subst hw
              refine lv_iload_n (pc := 70) hx hb dX1_meeting_70 rfl (lv_at hl 2 rfl) ?_
              refine zv_2 (pc := 71) (a := j) (b := (((clsN P D ((x + 1))) : Nat) : Int)) (rfl) ((nI_zI _)) ?_
              refine zv_icmp_ne (pc := 71) (tgt := 78) hx hb (by omega) (by omega) dX1_meeting_71 (by decide) (fun h71 => ?_) (fun h71 => ?_)
              · skip
                refine nv_iconst (pc := 78) (k := 0) hx hb dX1_meeting_78 rfl ?_
                refine nv_iadd (pc := 79) hx hb dX1_meeting_79 ?_
                refine lv_istore_n (pc := 80) (lv' := [(3, .int (nI ((n + 0)))), (0, .ref (ad 0)), (1, .int (zI (i))), (2, .int (zI (j))), (4, .int (nI (x)))]) hx hb dX1_meeting_80 rfl hl (by decide) rfl (fun ls hl => ?_)
                refine lv_iinc (pc := 81) (v := nI ((x + 1))) (lv' := [(4, .int (nI ((x + 1)))), (3, .int (nI ((n + 0)))), (0, .ref (ad 0)), (1, .int (zI (i))), (2, .int (zI (j)))]) hx hb dX1_meeting_81 hl (k := 4) rfl (nI_inc _) (by decide) rfl (fun ls hl => ?_)
                refine lv_goto (pc := 84) (tgt := 40) hx hb dX1_meeting_84 (by decide) ?_
                exact ih_40 ((x + 1)) ((n + 0)) (by omega) (by omega) (by rw [mtC_0 (by omega)]; exact hn) _ _ _ hP hD hS (lv_sub hl [2, 3, 4, 1, 0] rfl)
              · skip
                refine nv_iconst (pc := 74) (k := 1) hx hb dX1_meeting_74 rfl ?_
                refine lv_goto (pc := 75) (tgt := 79) hx hb dX1_meeting_75 (by decide) ?_
                refine nv_iadd (pc := 79) hx hb dX1_meeting_79 ?_
                refine lv_istore_n (pc := 80) (lv' := [(3, .int (nI ((n + 1)))), (0, .ref (ad 0)), (1, .int (zI (i))), (2, .int (zI (j))), (4, .int (nI (x)))]) hx hb dX1_meeting_80 rfl hl (by decide) rfl (fun ls hl => ?_)
                refine lv_iinc (pc := 81) (v := nI ((x + 1))) (lv' := [(4, .int (nI ((x + 1)))), (3, .int (nI ((n + 1)))), (0, .ref (ad 0)), (1, .int (zI (i))), (2, .int (zI (j)))]) hx hb dX1_meeting_81 hl (k := 4) rfl (nI_inc _) (by decide) rfl (fun ls hl => ?_)
                refine lv_goto (pc := 84) (tgt := 40) hx hb dX1_meeting_84 (by decide) ?_
                exact ih_40 ((x + 1)) ((n + 1)) (by omega) (by omega) (by rw [mtC_1 ⟨by omega, by omega, by omega⟩, hn]) _ _ _ hP hD hS (lv_sub hl [2, 3, 4, 1, 0] rfl)
      exact L40 _ (1) (0) (Nat.lt_succ_self _) (by omega) (rfl) _ _ _ hP hD hS (lv_sub hl [2, 3, 4, 1, 0] rfl)
    · skip
      rw [zL_le (by omega) (by omega), zL_le (by omega) (by omega)] at h29
      refine lv_bipush (pc := 32) (v := zI (-2)) hx hb dX1_meeting_32 (by decide) ?_
      exact hret _ _ _ _ _ (()) (by unfold mtS; rw [if_neg (by omega)]) hP hD hS dX1_meeting_34
set_option maxHeartbeats 4000000 in
set_option maxRecDepth 100000 in
theorem c_X0_count (l : Launch) (dd : va_G) {ad : Nat → Nat} {cI cL cQ : ClassId} {tR : Nat}  {ix : Nat → Int32} {pw : Nat → Int32} {sg : Nat → Int32} {tm : Nat → Int32} {hd : Nat → Nat → Int32} {wk : Nat → Int64} {rc : Nat → Int64} {lc : Nat → Int64} {P : Nat} {D : Nat} {what : Int} (hwr : -2147483648 ≤ what ∧ what < 2147483648) : CTi l yX0_count wsX0_count ({ frames := 0, cells := 0, slots := 0, locals := 0 } : Room) dd (tysA cI cL cQ) (rX tR) [.ref (ad 0), .int (zI (what))] (wC ad cI cL cQ (ix) (pw) (sg) (tm) (hd) (wk) (rc) (lc) (P) ((rootN P)) (D) ((phN D))) (fun (r : Int32) (u : Unit) => r = ctS P D what) (fun (_ : Unit) => (wC ad cI cL cQ (ix) (pw) (sg) (tm) (hd) (wk) (rc) (lc) (P) ((rootN P)) (D) ((phN D)))) := by
  refine CTi_of (cc := cX0_count) (maxL := 2) (by decide +kernel) rfl (Nat.le_of_ble_eq_true rfl) ?_
  intro p e s m args below meth c A Q ls H locs hx hb hts hown hml hP hK hD hS hA hX hl hret
  have hin : ∀ w ∈ wsX00, w ∈ wsX0_count := by decide +kernel
  have hl : lv_has ls 2 [(0, .ref (ad 0)), (1, .int (zI (what)))] := hl
  refine lv_iload_n (pc := 0) hx hb dX0_count_0 rfl (lv_at hl 1 rfl) ?_
  rcases (show what = 0 ∨ what = 1 ∨ what = 2 ∨ what = 3 ∨ (what < 0 ∨ 3 < what) by omega) with h1 | h1 | h1 | h1 | h1
  · skip
    refine tq_i (y := zI 0) (by rw [h1]) ?_
    refine lv_tableIn (pc := 1) (tgt := 32) hx hb dX0_count_1 (by decide) (by decide) rfl (by decide) ?_
    refine lv_aload_n (pc := 32) hx hb dX0_count_32 rfl (lv_at hl 0 rfl) ?_
    refine va_get (pc := 33) (D := dd) (ci := 0) (v := .int (nI (P))) (C := RX0) (T := TX0) (N := 12) hx hb hts hin hown hK hP 0 rfl rfl 8 (by decide) (hts (.fieldLink RX0 49 "TurningSums" "p" "I") (by decide +kernel)) (fun _ h9 => h9) rfl dX0_count_33 ?_
    exact hret _ _ _ _ _ (()) (by rw [h1]; rfl) hP hD hS dX0_count_36
  · skip
    refine tq_i (y := zI 1) (by rw [h1]) ?_
    refine lv_tableIn (pc := 1) (tgt := 37) hx hb dX0_count_1 (by decide) (by decide) rfl (by decide) ?_
    refine lv_aload_n (pc := 37) hx hb dX0_count_37 rfl (lv_at hl 0 rfl) ?_
    refine va_get (pc := 38) (D := dd) (ci := 0) (v := .int (nI ((rootN P)))) (C := RX0) (T := TX0) (N := 12) hx hb hts hin hown hK hP 0 rfl rfl 9 (by decide) (hts (.fieldLink RX0 45 "TurningSums" "root" "I") (by decide +kernel)) (fun _ h9 => h9) rfl dX0_count_38 ?_
    exact hret _ _ _ _ _ (()) (by rw [h1]; rfl) hP hD hS dX0_count_41
  · skip
    refine tq_i (y := zI 2) (by rw [h1]) ?_
    refine lv_tableIn (pc := 1) (tgt := 42) hx hb dX0_count_1 (by decide) (by decide) rfl (by decide) ?_
    refine lv_aload_n (pc := 42) hx hb dX0_count_42 rfl (lv_at hl 0 rfl) ?_
    refine va_get (pc := 43) (D := dd) (ci := 0) (v := .int (nI (D))) (C := RX0) (T := TX0) (N := 12) hx hb hts hin hown hK hP 0 rfl rfl 10 (by decide) (hts (.fieldLink RX0 74 "TurningSums" "d" "I") (by decide +kernel)) (fun _ h9 => h9) rfl dX0_count_43 ?_
    exact hret _ _ _ _ _ (()) (by rw [h1]; rfl) hP hD hS dX0_count_46
  · skip
    refine tq_i (y := zI 3) (by rw [h1]) ?_
    refine lv_tableIn (pc := 1) (tgt := 47) hx hb dX0_count_1 (by decide) (by decide) rfl (by decide) ?_
    refine lv_aload_n (pc := 47) hx hb dX0_count_47 rfl (lv_at hl 0 rfl) ?_
    refine va_get (pc := 48) (D := dd) (ci := 0) (v := .int (nI ((phN D)))) (C := RX0) (T := TX0) (N := 12) hx hb hts hin hown hK hP 0 rfl rfl 11 (by decide) (hts (.fieldLink RX0 55 "TurningSums" "phi" "I") (by decide +kernel)) (fun _ h9 => h9) rfl dX0_count_48 ?_
    exact hret _ _ _ _ _ (()) (by rw [h1]; rfl) hP hD hS dX0_count_51
  · skip
    refine lv_tableOut (pc := 1) (tgt := 52) hx hb dX0_count_1 (by rw [zI_toInt (by omega) (by omega)]; omega) (by decide) ?_
    refine lv_bipush (pc := 52) (v := zI (-3)) hx hb dX0_count_52 (by decide) ?_
    exact hret _ _ _ _ _ (()) (by unfold ctS; rw [if_neg (by omega), if_neg (by omega), if_neg (by omega), if_neg (by omega)]) hP hD hS dX0_count_54
set_option maxHeartbeats 4000000 in
set_option maxRecDepth 100000 in
theorem c_X1_count (l : Launch) (dd : va_G) {ad : Nat → Nat} {cI cL cQ : ClassId}  {P : Nat} {D : Nat} {ix : Nat → Int32} {ho : Nat → Int64} {re : Nat → Int32} {wk : Nat → Int64} {tu : Nat → Int64} {wa : Nat → Int64} {nx : Nat → Int64} {what : Int} (hwr : -2147483648 ≤ what ∧ what < 2147483648) : CTi l yX1_count wsX1_count ({ frames := 0, cells := 0, slots := 0, locals := 0 } : Room) dd (tysA cI cL cQ) (am_no) [.ref (ad 0), .int (zI (what))] (wM ad cI cL (P) ((rootN P)) (D) ((phN D)) (ix) (ho) (re) (wk) (tu) (wa) (nx)) (fun (r : Int32) (u : Unit) => r = ctS P D what) (fun (_ : Unit) => (wM ad cI cL (P) ((rootN P)) (D) ((phN D)) (ix) (ho) (re) (wk) (tu) (wa) (nx))) := by
  refine CTi_of (cc := cX1_count) (maxL := 2) (by decide +kernel) rfl (Nat.le_of_ble_eq_true rfl) ?_
  intro p e s m args below meth c A Q ls H locs hx hb hts hown hml hP hK hD hS hA hX hl hret
  have hin : ∀ w ∈ wsX10, w ∈ wsX1_count := by decide +kernel
  have hl : lv_has ls 2 [(0, .ref (ad 0)), (1, .int (zI (what)))] := hl
  refine lv_iload_n (pc := 0) hx hb dX1_count_0 rfl (lv_at hl 1 rfl) ?_
  refine zv_if_ne (pc := 1) (tgt := 11) hx hb (by omega) dX1_count_1 (by decide) (fun h1 => ?_) (fun h1 => ?_)
  · skip
    refine lv_iload_n (pc := 11) hx hb dX1_count_11 rfl (lv_at hl 1 rfl) ?_
    refine nv_iconst (pc := 12) (k := 1) hx hb dX1_count_12 rfl ?_
    refine zv_2 (pc := 13) (a := ((1 : Nat) : Int)) (b := what) ((nI_zI _)) (rfl) ?_
    refine zv_icmp_ne (pc := 13) (tgt := 23) hx hb (by omega) (by omega) dX1_count_13 (by decide) (fun h13 => ?_) (fun h13 => ?_)
    · skip
      refine lv_iload_n (pc := 23) hx hb dX1_count_23 rfl (lv_at hl 1 rfl) ?_
      refine nv_iconst (pc := 24) (k := 2) hx hb dX1_count_24 rfl ?_
      refine zv_2 (pc := 25) (a := ((2 : Nat) : Int)) (b := what) ((nI_zI _)) (rfl) ?_
      refine zv_icmp_ne (pc := 25) (tgt := 35) hx hb (by omega) (by omega) dX1_count_25 (by decide) (fun h25 => ?_) (fun h25 => ?_)
      · skip
        refine lv_iload_n (pc := 35) hx hb dX1_count_35 rfl (lv_at hl 1 rfl) ?_
        refine nv_iconst (pc := 36) (k := 3) hx hb dX1_count_36 rfl ?_
        refine zv_2 (pc := 37) (a := ((3 : Nat) : Int)) (b := what) ((nI_zI _)) (rfl) ?_
        refine zv_icmp_ne (pc := 37) (tgt := 47) hx hb (by omega) (by omega) dX1_count_37 (by decide) (fun h37 => ?_) (fun h37 => ?_)
        · skip
          refine lv_bipush (pc := 47) (v := zI (-3)) hx hb dX1_count_47 (by decide) ?_
          exact hret _ _ _ _ _ (()) (by unfold ctS; first | rw [if_neg (by omega), if_neg (by omega), if_neg (by omega), if_neg (by omega)] | rw [if_neg (by omega), if_neg (by omega), if_neg (by omega), if_pos (by omega)] | rw [if_neg (by omega), if_neg (by omega), if_pos (by omega)] | rw [if_neg (by omega), if_pos (by omega)] | rw [if_pos (by omega)]) hP hD hS dX1_count_49
        · skip
          refine lv_aload_n (pc := 40) hx hb dX1_count_40 rfl (lv_at hl 0 rfl) ?_
          refine va_get (pc := 41) (D := dd) (ci := 1) (v := .int (nI ((phN D)))) (C := RX1) (T := TX1) (N := 11) hx hb hts hin hown hK hP 0 rfl rfl 3 (by decide) (hts (.fieldLink RX1 55 "TurningSumsModel" "phi" "I") (by decide +kernel)) (fun _ h9 => h9) rfl dX1_count_41 ?_
          refine lv_goto (pc := 44) (tgt := 49) hx hb dX1_count_44 (by decide) ?_
          exact hret _ _ _ _ _ (()) (by unfold ctS; first | rw [if_neg (by omega), if_neg (by omega), if_neg (by omega), if_neg (by omega)] | rw [if_neg (by omega), if_neg (by omega), if_neg (by omega), if_pos (by omega)] | rw [if_neg (by omega), if_neg (by omega), if_pos (by omega)] | rw [if_neg (by omega), if_pos (by omega)] | rw [if_pos (by omega)]) hP hD hS dX1_count_49
      · skip
        refine lv_aload_n (pc := 28) hx hb dX1_count_28 rfl (lv_at hl 0 rfl) ?_
        refine va_get (pc := 29) (D := dd) (ci := 1) (v := .int (nI (D))) (C := RX1) (T := TX1) (N := 11) hx hb hts hin hown hK hP 0 rfl rfl 2 (by decide) (hts (.fieldLink RX1 52 "TurningSumsModel" "d" "I") (by decide +kernel)) (fun _ h9 => h9) rfl dX1_count_29 ?_
        refine lv_goto (pc := 32) (tgt := 49) hx hb dX1_count_32 (by decide) ?_
        exact hret _ _ _ _ _ (()) (by unfold ctS; first | rw [if_neg (by omega), if_neg (by omega), if_neg (by omega), if_neg (by omega)] | rw [if_neg (by omega), if_neg (by omega), if_neg (by omega), if_pos (by omega)] | rw [if_neg (by omega), if_neg (by omega), if_pos (by omega)] | rw [if_neg (by omega), if_pos (by omega)] | rw [if_pos (by omega)]) hP hD hS dX1_count_49
    · skip
      refine lv_aload_n (pc := 16) hx hb dX1_count_16 rfl (lv_at hl 0 rfl) ?_
      refine va_get (pc := 17) (D := dd) (ci := 1) (v := .int (nI ((rootN P)))) (C := RX1) (T := TX1) (N := 11) hx hb hts hin hown hK hP 0 rfl rfl 1 (by decide) (hts (.fieldLink RX1 46 "TurningSumsModel" "root" "I") (by decide +kernel)) (fun _ h9 => h9) rfl dX1_count_17 ?_
      refine lv_goto (pc := 20) (tgt := 49) hx hb dX1_count_20 (by decide) ?_
      exact hret _ _ _ _ _ (()) (by unfold ctS; first | rw [if_neg (by omega), if_neg (by omega), if_neg (by omega), if_neg (by omega)] | rw [if_neg (by omega), if_neg (by omega), if_neg (by omega), if_pos (by omega)] | rw [if_neg (by omega), if_neg (by omega), if_pos (by omega)] | rw [if_neg (by omega), if_pos (by omega)] | rw [if_pos (by omega)]) hP hD hS dX1_count_49
  · skip
    refine lv_aload_n (pc := 4) hx hb dX1_count_4 rfl (lv_at hl 0 rfl) ?_
    refine va_get (pc := 5) (D := dd) (ci := 1) (v := .int (nI (P))) (C := RX1) (T := TX1) (N := 11) hx hb hts hin hown hK hP 0 rfl rfl 0 (by decide) (hts (.fieldLink RX1 42 "TurningSumsModel" "p" "I") (by decide +kernel)) (fun _ h9 => h9) rfl dX1_count_5 ?_
    refine lv_goto (pc := 8) (tgt := 49) hx hb dX1_count_8 (by decide) ?_
    exact hret _ _ _ _ _ (()) (by unfold ctS; first | rw [if_neg (by omega), if_neg (by omega), if_neg (by omega), if_neg (by omega)] | rw [if_neg (by omega), if_neg (by omega), if_neg (by omega), if_pos (by omega)] | rw [if_neg (by omega), if_neg (by omega), if_pos (by omega)] | rw [if_neg (by omega), if_pos (by omega)] | rw [if_pos (by omega)]) hP hD hS dX1_count_49
set_option maxHeartbeats 4000000 in
set_option maxRecDepth 100000 in
theorem c_X0_at (l : Launch) (dd : va_G) {ad : Nat → Nat} {cI cL cQ : ClassId} {tR : Nat} {hv : Nat → Nat → Int32} {ix : Nat → Int32} {pw : Nat → Int32} {sg : Nat → Int32} {tm : Nat → Int32} {hd : Nat → Nat → Int32} {wk : Nat → Int64} {rc : Nat → Int64} {lc : Nat → Int64} {P : Nat} {D : Nat} {h : Int} {i : Int} (hhr : -2147483648 ≤ h ∧ h < 2147483648) (hir : -2147483648 ≤ i ∧ i < 2147483648) (hP1 : okP P) (hD1 : 1 ≤ D ∧ D ≤ 12) (hH : okH D hv hd) : CTi l yX0_at wsX0_at ({ frames := 1, cells := 0, slots := 0, locals := 20 } : Room) dd (tysA cI cL cQ) (rX tR) [.ref (ad 0), .int (zI (h)), .int (zI (i))] (wC ad cI cL cQ (ix) (pw) (sg) (tm) (hd) (wk) (rc) (lc) (P) ((rootN P)) (D) ((phN D))) (fun (r : Int32) (u : Unit) => r = atS D hv h i) (fun (_ : Unit) => (wC ad cI cL cQ (ix) (pw) (sg) (tm) (hd) (wk) (rc) (lc) (P) ((rootN P)) (D) ((phN D)))) := by
  refine CTi_of (cc := cX0_at) (maxL := 3) (by decide +kernel) rfl (Nat.le_of_ble_eq_true rfl) ?_
  intro p e s m args below meth c A Q ls H locs hx hb hts hown hml hP hK hD hS hA hX hl hret
  have hin : ∀ w ∈ wsX00, w ∈ wsX0_at := by decide +kernel
  have hl : lv_has ls 3 [(0, .ref (ad 0)), (1, .int (zI (h))), (2, .int (zI (i)))] := hl
  obtain ⟨o1, o2, o3, o4, o5, o6⟩ := id hP1
  have hph := ph_rng D (by omega) hD1.1
  refine lv_iload_n (pc := 0) hx hb dX0_at_0 rfl (lv_at hl 1 rfl) ?_
  refine CTi_S0 (pc := 1) am_no_ok (As := [.int (zI (h))]) (rest := []) ⟨hx, hb, hml, hown, hts⟩ (c_X0_isHold l dd (by omega)) (va_cwS 1 hts gX0_at_X0_isHold rfl rfl rfl (by decide +kernel) ⟨Nat.le_of_ble_eq_true rfl, Nat.le_of_ble_eq_true rfl⟩) hK hP hD hS hA trivial rfl hl.1 rfl (Nat.le_of_ble_eq_true rfl) ⟨Nat.zero_le _, Nat.zero_le _⟩ dX0_at_1 (fun r u H locs hw hP hD hS => ?_)
  try dsimp only at hw
  subst hw
  refine bv_if_eq (pc := 4) (tgt := 19) hx hb dX0_at_4 (by decide) (fun h4 => ?_) (fun h4 => ?_)
  · skip
    refine tq_ldc (pc := 19) (k := (-2147483648)) hx hb hown (hts (.constant RX0 96 (-2147483648)) (by decide +kernel)) dX0_at_19 ?_
    exact hret _ _ _ _ _ (()) (by unfold atS; rw [if_neg (by omega)]) hP hD hS dX0_at_21
  · skip
    refine lv_iload_n (pc := 7) hx hb dX0_at_7 rfl (lv_at hl 2 rfl) ?_
    refine zv_if_lt (pc := 8) (tgt := 19) hx hb (by omega) dX0_at_8 (by decide) (fun h8 => ?_) (fun h8 => ?_)
    · skip
      refine tq_ldc (pc := 19) (k := (-2147483648)) hx hb hown (hts (.constant RX0 96 (-2147483648)) (by decide +kernel)) dX0_at_19 ?_
      exact hret _ _ _ _ _ (()) (by unfold atS; rw [if_neg (by omega)]) hP hD hS dX0_at_21
    · skip
      refine lv_iload_n (pc := 11) hx hb dX0_at_11 rfl (lv_at hl 2 rfl) ?_
      refine lv_aload_n (pc := 12) hx hb dX0_at_12 rfl (lv_at hl 0 rfl) ?_
      refine va_get (pc := 13) (D := dd) (ci := 0) (v := .int (nI ((phN D)))) (C := RX0) (T := TX0) (N := 12) hx hb hts hin hown hK hP 0 rfl rfl 11 (by decide) (hts (.fieldLink RX0 55 "TurningSums" "phi" "I") (by decide +kernel)) (fun _ h9 => h9) rfl dX0_at_13 ?_
      refine zv_2 (pc := 16) (a := (((phN D) : Nat) : Int)) (b := i) ((nI_zI _)) (rfl) ?_
      refine zv_icmp_lt (pc := 16) (tgt := 22) hx hb (by omega) (by omega) dX0_at_16 (by decide) (fun h16 => ?_) (fun h16 => ?_)
      · skip
        refine lv_aload_n (pc := 22) hx hb dX0_at_22 rfl (lv_at hl 0 rfl) ?_
        refine va_get (pc := 23) (D := dd) (ci := 0) (v := .ref (ad 5)) (C := RX0) (T := TX0) (N := 12) hx hb hts hin hown hK hP 0 rfl rfl 4 (by decide) (hts (.fieldLink RX0 24 "TurningSums" "holds" "[[I") (by decide +kernel)) (fun _ h9 => h9) rfl dX0_at_23 ?_
        refine lv_iload_n (pc := 26) hx hb dX0_at_26 rfl (lv_at hl 1 rfl) ?_
        refine tq_i (y := nI ((h).toNat)) (zI_toNat (by omega)) ?_
        refine nv_aald (pc := 27) hx hb hK hP 5 2 rfl rfl (i := (h).toNat) (by omega) (by decide) (if_pos (by omega)) dX0_at_27 ?_
        refine lv_iload_n (pc := 28) hx hb dX0_at_28 rfl (lv_at hl 2 rfl) ?_
        refine tq_i (y := nI ((i).toNat)) (zI_toNat (by omega)) ?_
        refine nv_iald (pc := 29) hx hb hK hP (9 + ((h).toNat)) 0 (hd_get (by omega)) rfl (i := (i).toNat) (by omega) (by decide) (v := (hv h.toNat i.toNat)) (hH _ (by omega) _ (by omega)) dX0_at_29 ?_
        exact hret _ _ _ _ _ (()) (by unfold atS; rw [if_pos (by omega)]) hP hD hS dX0_at_30
      · skip
        refine tq_ldc (pc := 19) (k := (-2147483648)) hx hb hown (hts (.constant RX0 96 (-2147483648)) (by decide +kernel)) dX0_at_19 ?_
        exact hret _ _ _ _ _ (()) (by unfold atS; rw [if_neg (by omega)]) hP hD hS dX0_at_21
set_option maxHeartbeats 4000000 in
set_option maxRecDepth 100000 in
theorem c_X1_at (l : Launch) (dd : va_G) {ad : Nat → Nat} {cI cL cQ : ClassId} {hv : Nat → Nat → Int32} {P : Nat} {D : Nat} {ix : Nat → Int32} {ho : Nat → Int64} {re : Nat → Int32} {wk : Nat → Int64} {tu : Nat → Int64} {wa : Nat → Int64} {nx : Nat → Int64} {h : Int} {i : Int} (hhr : -2147483648 ≤ h ∧ h < 2147483648) (hir : -2147483648 ≤ i ∧ i < 2147483648) (hP1 : okP P) (hD1 : 1 ≤ D ∧ D ≤ 12) (hL : okL D hv ho) : CTi l yX1_at wsX1_at ({ frames := 2, cells := 0, slots := 0, locals := 45 } : Room) dd (tysA cI cL cQ) (am_no) [.ref (ad 0), .int (zI (h)), .int (zI (i))] (wM ad cI cL (P) ((rootN P)) (D) ((phN D)) (ix) (ho) (re) (wk) (tu) (wa) (nx)) (fun (r : Int32) (u : Unit) => r = atS D hv h i) (fun (_ : Unit) => (wM ad cI cL (P) ((rootN P)) (D) ((phN D)) (ix) (ho) (re) (wk) (tu) (wa) (nx))) := by
  refine CTi_of (cc := cX1_at) (maxL := 3) (by decide +kernel) rfl (Nat.le_of_ble_eq_true rfl) ?_
  intro p e s m args below meth c A Q ls H locs hx hb hts hown hml hP hK hD hS hA hX hl hret
  have hin : ∀ w ∈ wsX10, w ∈ wsX1_at := by decide +kernel
  have hl : lv_has ls 3 [(0, .ref (ad 0)), (1, .int (zI (h))), (2, .int (zI (i)))] := hl
  obtain ⟨o1, o2, o3, o4, o5, o6⟩ := id hP1
  have hph := ph_rng D (by omega) hD1.1
  refine lv_iload_n (pc := 0) hx hb dX1_at_0 rfl (lv_at hl 1 rfl) ?_
  refine CTi_S0 (pc := 1) am_no_ok (As := [.int (zI (h))]) (rest := []) ⟨hx, hb, hml, hown, hts⟩ (c_X1_isHold l dd (by omega)) (va_cwS 1 hts gX1_at_X1_isHold rfl rfl rfl (by decide +kernel) ⟨Nat.le_of_ble_eq_true rfl, Nat.le_of_ble_eq_true rfl⟩) hK hP hD hS hA hX rfl hl.1 rfl (Nat.le_of_ble_eq_true rfl) ⟨Nat.zero_le _, Nat.zero_le _⟩ dX1_at_1 (fun r u H locs hw hP hD hS => ?_)
  try dsimp only at hw
  subst hw
  refine bv_if_eq (pc := 4) (tgt := 38) hx hb dX1_at_4 (by decide) (fun h4 => ?_) (fun h4 => ?_)
  · skip
    refine tq_ldc (pc := 38) (k := (-2147483648)) hx hb hown (hts (.constant RX1 106 (-2147483648)) (by decide +kernel)) dX1_at_38 ?_
    exact hret _ _ _ _ _ (()) (by unfold atS; rw [if_neg (by omega)]) hP hD hS dX1_at_40
  · skip
    refine lv_iload_n (pc := 7) hx hb dX1_at_7 rfl (lv_at hl 2 rfl) ?_
    refine lv_i2l (pc := 8) (v := zL (i)) hx hb dX1_at_8 (zL_zI (by omega) (by omega)) ?_
    refine lv_lconst (pc := 9) (v := zL 0) hx hb dX1_at_9 (by decide) ?_
    refine lv_aload_n (pc := 10) hx hb dX1_at_10 rfl (lv_at hl 0 rfl) ?_
    refine va_get (pc := 11) (D := dd) (ci := 1) (v := .int (nI ((phN D)))) (C := RX1) (T := TX1) (N := 11) hx hb hts hin hown hK hP 0 rfl rfl 3 (by decide) (hts (.fieldLink RX1 55 "TurningSumsModel" "phi" "I") (by decide +kernel)) (fun _ h9 => h9) rfl dX1_at_11 ?_
    refine nv_iconst (pc := 14) (k := 1) hx hb dX1_at_14 rfl ?_
    refine nv_isub (pc := 15) hx hb (by omega) dX1_at_15 ?_
    refine lv_i2l (pc := 16) (v := zL ((((phN D) - 1) : Nat) : Int)) hx hb dX1_at_16 (zL_nI (by omega)) ?_
    refine CTi_S0 (pc := 17) am_no_ok (As := [.long (zL (i)), .long (zL 0), .long (zL ((((phN D) - 1) : Nat) : Int))]) (rest := []) ⟨hx, hb, hml, hown, hts⟩ (c_X1_in l dd ) (va_cwS 3 hts gX1_at_X1_in rfl rfl rfl (by decide +kernel) ⟨Nat.le_of_ble_eq_true rfl, Nat.le_of_ble_eq_true rfl⟩) hK hP hD hS hA hX rfl hl.1 rfl (Nat.le_of_ble_eq_true rfl) ⟨Nat.zero_le _, Nat.zero_le _⟩ dX1_at_17 (fun r u H locs hw hP hD hS => ?_)
    try dsimp only at hw
    subst hw
    refine bv_if_eq (pc := 20) (tgt := 38) hx hb dX1_at_20 (by decide) (fun h20 => ?_) (fun h20 => ?_)
    · skip
      rw [zL_le (by omega) (by omega), zL_le (by omega) (by omega)] at h20
      refine tq_ldc (pc := 38) (k := (-2147483648)) hx hb hown (hts (.constant RX1 106 (-2147483648)) (by decide +kernel)) dX1_at_38 ?_
      exact hret _ _ _ _ _ (()) (by unfold atS; rw [if_neg (by omega)]) hP hD hS dX1_at_40
    · skip
      rw [zL_le (by omega) (by omega), zL_le (by omega) (by omega)] at h20
      refine lv_aload_n (pc := 23) hx hb dX1_at_23 rfl (lv_at hl 0 rfl) ?_
      refine va_get (pc := 24) (D := dd) (ci := 1) (v := .ref (ad 2)) (C := RX1) (T := TX1) (N := 11) hx hb hts hin hown hK hP 0 rfl rfl 5 (by decide) (hts (.fieldLink RX1 13 "TurningSumsModel" "hold" "[J") (by decide +kernel)) (fun _ h9 => h9) rfl dX1_at_24 ?_
      refine nv_bipush (pc := 27) (k := 12) hx hb dX1_at_27 rfl (by decide) ?_
      refine lv_iload_n (pc := 29) hx hb dX1_at_29 rfl (lv_at hl 1 rfl) ?_
      refine tq_i (y := nI (h.toNat)) (zI_toNat (by omega)) ?_
      refine nv_imul (pc := 30) hx hb dX1_at_30 ?_
      refine lv_iload_n (pc := 31) hx hb dX1_at_31 rfl (lv_at hl 2 rfl) ?_
      refine tq_i (y := nI (i.toNat)) (zI_toNat (by omega)) ?_
      refine nv_iadd (pc := 32) hx hb dX1_at_32 ?_
      refine nv_lald (pc := 33) hx hb hK hP 2 1 rfl rfl (i := ((12 * h.toNat) + i.toNat)) (by omega) (by decide) (v := zL (hv h.toNat i.toNat).toInt) (by rw [hL h.toNat (by omega) i.toNat (by omega), if_pos (by omega)]) dX1_at_33 ?_
      refine lv_l2i (pc := 34) (v := (zL (hv h.toNat i.toNat).toInt).toInt32) hx hb dX1_at_34 rfl ?_
      refine lv_goto (pc := 35) (tgt := 40) hx hb dX1_at_35 (by decide) ?_
      exact hret _ _ _ _ _ (()) (by unfold atS; rw [if_pos (by omega)]; exact zL_int _) hP hD hS dX1_at_40
set_option maxHeartbeats 4000000 in
set_option maxRecDepth 100000 in
theorem c_X0_same (l : Launch) (dd : va_G) {ad : Nat → Nat} {cI cL cQ : ClassId} {tR : Nat} {hv : Nat → Nat → Int32} {ix : Nat → Int32} {pw : Nat → Int32} {sg : Nat → Int32} {tm : Nat → Int32} {hd : Nat → Nat → Int32} {wk : Nat → Int64} {rc : Nat → Int64} {lc : Nat → Int64} {P : Nat} {D : Nat} {a : Int} {b : Int} (har : -2147483648 ≤ a ∧ a < 2147483648) (hbr : -2147483648 ≤ b ∧ b < 2147483648) (hP1 : okP P) (hD1 : 1 ≤ D ∧ D ≤ 12) (hH : okH D hv hd) : CTi l yX0_same wsX0_same ({ frames := 1, cells := 0, slots := 0, locals := 20 } : Room) dd (tysA cI cL cQ) (rX tR) [.ref (ad 0), .int (zI (a)), .int (zI (b))] (wC ad cI cL cQ (ix) (pw) (sg) (tm) (hd) (wk) (rc) (lc) (P) ((rootN P)) (D) ((phN D))) (fun (r : Int32) (u : Unit) => r = smS D hv a b) (fun (_ : Unit) => (wC ad cI cL cQ (ix) (pw) (sg) (tm) (hd) (wk) (rc) (lc) (P) ((rootN P)) (D) ((phN D)))) := by
  refine CTi_of (cc := cX0_same) (maxL := 4) (by decide +kernel) rfl (Nat.le_of_ble_eq_true rfl) ?_
  intro p e s m args below meth c A Q ls H locs hx hb hts hown hml hP hK hD hS hA hX hl hret
  have hin : ∀ w ∈ wsX00, w ∈ wsX0_same := by decide +kernel
  have hl : lv_has ls 4 [(0, .ref (ad 0)), (1, .int (zI (a))), (2, .int (zI (b)))] := hl
  obtain ⟨o1, o2, o3, o4, o5, o6⟩ := id hP1
  have hph := ph_rng D (by omega) hD1.1
  refine lv_iload_n (pc := 0) hx hb dX0_same_0 rfl (lv_at hl 1 rfl) ?_
  refine CTi_S0 (pc := 1) am_no_ok (As := [.int (zI (a))]) (rest := []) ⟨hx, hb, hml, hown, hts⟩ (c_X0_isHold l dd (by omega)) (va_cwS 1 hts gX0_same_X0_isHold rfl rfl rfl (by decide +kernel) ⟨Nat.le_of_ble_eq_true rfl, Nat.le_of_ble_eq_true rfl⟩) hK hP hD hS hA trivial rfl hl.1 rfl (Nat.le_of_ble_eq_true rfl) ⟨Nat.zero_le _, Nat.zero_le _⟩ dX0_same_1 (fun r u H locs hw hP hD hS => ?_)
  try dsimp only at hw
  subst hw
  refine bv_if_eq (pc := 4) (tgt := 14) hx hb dX0_same_4 (by decide) (fun h4 => ?_) (fun h4 => ?_)
  · skip
    refine lv_bipush (pc := 14) (v := zI (-2)) hx hb dX0_same_14 (by decide) ?_
    exact hret _ _ _ _ _ (()) (by unfold smS; rw [if_neg (by omega)]) hP hD hS dX0_same_16
  · skip
    refine lv_iload_n (pc := 7) hx hb dX0_same_7 rfl (lv_at hl 2 rfl) ?_
    refine CTi_S0 (pc := 8) am_no_ok (As := [.int (zI (b))]) (rest := []) ⟨hx, hb, hml, hown, hts⟩ (c_X0_isHold l dd (by omega)) (va_cwS 1 hts gX0_same_X0_isHold rfl rfl rfl (by decide +kernel) ⟨Nat.le_of_ble_eq_true rfl, Nat.le_of_ble_eq_true rfl⟩) hK hP hD hS hA trivial rfl hl.1 rfl (Nat.le_of_ble_eq_true rfl) ⟨Nat.zero_le _, Nat.zero_le _⟩ dX0_same_8 (fun r u H locs hw hP hD hS => ?_)
    try dsimp only at hw
    subst hw
    refine bv_if_ne (pc := 11) (tgt := 17) hx hb dX0_same_11 (by decide) (fun h11 => ?_) (fun h11 => ?_)
    · skip
      refine nv_iconst (pc := 17) (k := 0) hx hb dX0_same_17 rfl ?_
      refine lv_istore_n (pc := 18) (lv' := [(3, .int (nI (0))), (0, .ref (ad 0)), (1, .int (zI (a))), (2, .int (zI (b)))]) hx hb dX0_same_18 rfl hl (by decide) rfl (fun ls hl => ?_)
      have L19 : ∀ (n9_19 : Nat), ∀ (k : Nat), phN D + 1 - k < n9_19 → (k ≤ phN D) → (∀ q, q < k → hv a.toNat q = hv b.toNat q) → ∀ (H : Heap) (locs : List Loc) (ls : Array Slot), va_P dd vwCl (wC ad cI cL cQ (ix) (pw) (sg) (tm) (hd) (wk) (rc) (lc) (P) ((rootN P)) (D) ((phN D))) H → va_D A (wC ad cI cL cQ (ix) (pw) (sg) (tm) (hd) (wk) (rc) (lc) (P) ((rootN P)) (D) ((phN D))) → va_S A s.heap H locs → lv_has ls 4 [(0, .ref (ad 0)), (1, .int (zI (a))), (2, .int (zI (b))), (3, .int (nI (k)))] → W p l e ({ frames := 1, cells := 0, slots := 0, locals := 20 } : Room) s m args below meth c H locs 0 0 Q (F0 m 19 ls []) := by
        intro n9_19
        induction n9_19 with
        | zero => intro k hm; exact absurd hm (Nat.not_lt_zero _)
        | succ n9_19 ih_19 =>
          intro k hm_19 hk hs H locs ls hP hD hS hl
          refine lv_iload_n (pc := 19) hx hb dX0_same_19 rfl (lv_at hl 3 rfl) ?_
          refine lv_aload_n (pc := 20) hx hb dX0_same_20 rfl (lv_at hl 0 rfl) ?_
          refine va_get (pc := 21) (D := dd) (ci := 0) (v := .int (nI ((phN D)))) (C := RX0) (T := TX0) (N := 12) hx hb hts hin hown hK hP 0 rfl rfl 11 (by decide) (hts (.fieldLink RX0 55 "TurningSums" "phi" "I") (by decide +kernel)) (fun _ h9 => h9) rfl dX0_same_21 ?_
          refine nv_icmp_ge (pc := 24) (tgt := 54) hx hb (a := k) (b := (phN D)) (by omega) (by omega) dX0_same_24 (by decide) (fun h24 => ?_) (fun h24 => ?_)
          · skip
            refine nv_iconst (pc := 54) (k := 1) hx hb dX0_same_54 rfl ?_
            exact hret _ _ _ _ _ (()) (by unfold smS; rw [if_pos (by omega), if_pos ((smB_iff _ _ _ _).mpr (fun q z => hs q (by omega)))]) hP hD hS dX0_same_55
          · skip
            refine lv_aload_n (pc := 27) hx hb dX0_same_27 rfl (lv_at hl 0 rfl) ?_
            refine va_get (pc := 28) (D := dd) (ci := 0) (v := .ref (ad 5)) (C := RX0) (T := TX0) (N := 12) hx hb hts hin hown hK hP 0 rfl rfl 4 (by decide) (hts (.fieldLink RX0 24 "TurningSums" "holds" "[[I") (by decide +kernel)) (fun _ h9 => h9) rfl dX0_same_28 ?_
            refine lv_iload_n (pc := 31) hx hb dX0_same_31 rfl (lv_at hl 1 rfl) ?_
            refine tq_i (y := nI ((a).toNat)) (zI_toNat (by omega)) ?_
            refine nv_aald (pc := 32) hx hb hK hP 5 2 rfl rfl (i := (a).toNat) (by omega) (by decide) (if_pos (by omega)) dX0_same_32 ?_
            refine lv_iload_n (pc := 33) hx hb dX0_same_33 rfl (lv_at hl 3 rfl) ?_
            refine nv_iald (pc := 34) hx hb hK hP (9 + ((a).toNat)) 0 (hd_get (by omega)) rfl (i := k) (by omega) (by decide) (v := (hv a.toNat k)) (hH _ (by omega) _ (by omega)) dX0_same_34 ?_
            refine lv_aload_n (pc := 35) hx hb dX0_same_35 rfl (lv_at hl 0 rfl) ?_
            refine va_get (pc := 36) (D := dd) (ci := 0) (v := .ref (ad 5)) (C := RX0) (T := TX0) (N := 12) hx hb hts hin hown hK hP 0 rfl rfl 4 (by decide) (hts (.fieldLink RX0 24 "TurningSums" "holds" "[[I") (by decide +kernel)) (fun _ h9 => h9) rfl dX0_same_36 ?_
            refine lv_iload_n (pc := 39) hx hb dX0_same_39 rfl (lv_at hl 2 rfl) ?_
            refine tq_i (y := nI ((b).toNat)) (zI_toNat (by omega)) ?_
            refine nv_aald (pc := 40) hx hb hK hP 5 2 rfl rfl (i := (b).toNat) (by omega) (by decide) (if_pos (by omega)) dX0_same_40 ?_
            refine lv_iload_n (pc := 41) hx hb dX0_same_41 rfl (lv_at hl 3 rfl) ?_
            refine nv_iald (pc := 42) hx hb hK hP (9 + ((b).toNat)) 0 (hd_get (by omega)) rfl (i := k) (by omega) (by decide) (v := (hv b.toNat k)) (hH _ (by omega) _ (by omega)) dX0_same_42 ?_
            refine lv_icmp_eq (pc := 43) (tgt := 48) hx hb dX0_same_43 (by decide) (fun h43 => ?_) (fun h43 => ?_)
            · skip
              refine lv_iinc (pc := 48) (v := nI ((k + 1))) (lv' := [(3, .int (nI ((k + 1)))), (0, .ref (ad 0)), (1, .int (zI (a))), (2, .int (zI (b)))]) hx hb dX0_same_48 hl (k := 3) rfl (nI_inc _) (by decide) rfl (fun ls hl => ?_)
              refine lv_goto (pc := 51) (tgt := 19) hx hb dX0_same_51 (by decide) ?_
              exact ih_19 ((k + 1)) (by omega) (by omega) (fun q z => (Nat.lt_or_ge q k).elim (fun w => hs q w) (fun w => by have e : q = k := (by omega); subst e; exact h43)) _ _ _ hP hD hS (lv_sub hl [1, 2, 3, 0] rfl)
            · skip
              refine nv_iconst (pc := 46) (k := 0) hx hb dX0_same_46 rfl ?_
              exact hret _ _ _ _ _ (()) (by unfold smS; rw [if_pos (by omega), if_neg (fun z => h43 ((smB_iff _ _ _ _).mp z k (by omega)))]) hP hD hS dX0_same_47
      exact L19 _ (0) (Nat.lt_succ_self _) (by omega) (fun q z => by omega) _ _ _ hP hD hS (lv_sub hl [1, 2, 3, 0] rfl)
    · skip
      refine lv_bipush (pc := 14) (v := zI (-2)) hx hb dX0_same_14 (by decide) ?_
      exact hret _ _ _ _ _ (()) (by unfold smS; rw [if_neg (by omega)]) hP hD hS dX0_same_16
set_option maxHeartbeats 4000000 in
set_option maxRecDepth 100000 in
theorem c_X1_same (l : Launch) (dd : va_G) {ad : Nat → Nat} {cI cL cQ : ClassId} {hv : Nat → Nat → Int32} {P : Nat} {D : Nat} {ix : Nat → Int32} {ho : Nat → Int64} {re : Nat → Int32} {wk : Nat → Int64} {tu : Nat → Int64} {wa : Nat → Int64} {nx : Nat → Int64} {a : Int} {b : Int} (har : -2147483648 ≤ a ∧ a < 2147483648) (hbr : -2147483648 ≤ b ∧ b < 2147483648) (hP1 : okP P) (hD1 : 1 ≤ D ∧ D ≤ 12) (hL : okL D hv ho) : CTi l yX1_same wsX1_same ({ frames := 2, cells := 0, slots := 0, locals := 45 } : Room) dd (tysA cI cL cQ) (am_no) [.ref (ad 0), .int (zI (a)), .int (zI (b))] (wM ad cI cL (P) ((rootN P)) (D) ((phN D)) (ix) (ho) (re) (wk) (tu) (wa) (nx)) (fun (r : Int32) (u : Unit) => r = smS D hv a b) (fun (_ : Unit) => (wM ad cI cL (P) ((rootN P)) (D) ((phN D)) (ix) (ho) (re) (wk) (tu) (wa) (nx))) := by
  refine CTi_of (cc := cX1_same) (maxL := 5) (by decide +kernel) rfl (Nat.le_of_ble_eq_true rfl) ?_
  intro p e s m args below meth c A Q ls H locs hx hb hts hown hml hP hK hD hS hA hX hl hret
  have hin : ∀ w ∈ wsX10, w ∈ wsX1_same := by decide +kernel
  have hl : lv_has ls 5 [(0, .ref (ad 0)), (1, .int (zI (a))), (2, .int (zI (b)))] := hl
  obtain ⟨o1, o2, o3, o4, o5, o6⟩ := id hP1
  have hph := ph_rng D (by omega) hD1.1
  refine lv_iload_n (pc := 0) hx hb dX1_same_0 rfl (lv_at hl 1 rfl) ?_
  refine CTi_S0 (pc := 1) am_no_ok (As := [.int (zI (a))]) (rest := []) ⟨hx, hb, hml, hown, hts⟩ (c_X1_isHold l dd (by omega)) (va_cwS 1 hts gX1_same_X1_isHold rfl rfl rfl (by decide +kernel) ⟨Nat.le_of_ble_eq_true rfl, Nat.le_of_ble_eq_true rfl⟩) hK hP hD hS hA hX rfl hl.1 rfl (Nat.le_of_ble_eq_true rfl) ⟨Nat.zero_le _, Nat.zero_le _⟩ dX1_same_1 (fun r u H locs hw hP hD hS => ?_)
  try dsimp only at hw
  subst hw
  refine bv_if_eq (pc := 4) (tgt := 14) hx hb dX1_same_4 (by decide) (fun h4 => ?_) (fun h4 => ?_)
  · skip
    refine lv_bipush (pc := 14) (v := zI (-2)) hx hb dX1_same_14 (by decide) ?_
    exact hret _ _ _ _ _ (()) (by unfold smS; rw [if_neg (by omega)]) hP hD hS dX1_same_16
  · skip
    refine lv_iload_n (pc := 7) hx hb dX1_same_7 rfl (lv_at hl 2 rfl) ?_
    refine CTi_S0 (pc := 8) am_no_ok (As := [.int (zI (b))]) (rest := []) ⟨hx, hb, hml, hown, hts⟩ (c_X1_isHold l dd (by omega)) (va_cwS 1 hts gX1_same_X1_isHold rfl rfl rfl (by decide +kernel) ⟨Nat.le_of_ble_eq_true rfl, Nat.le_of_ble_eq_true rfl⟩) hK hP hD hS hA hX rfl hl.1 rfl (Nat.le_of_ble_eq_true rfl) ⟨Nat.zero_le _, Nat.zero_le _⟩ dX1_same_8 (fun r u H locs hw hP hD hS => ?_)
    try dsimp only at hw
    subst hw
    refine bv_if_ne (pc := 11) (tgt := 17) hx hb dX1_same_11 (by decide) (fun h11 => ?_) (fun h11 => ?_)
    · skip
      refine nv_iconst (pc := 17) (k := 1) hx hb dX1_same_17 rfl ?_
      refine lv_istore_n (pc := 18) (lv' := [(3, .int (nI (1))), (0, .ref (ad 0)), (1, .int (zI (a))), (2, .int (zI (b)))]) hx hb dX1_same_18 rfl hl (by decide) rfl (fun ls hl => ?_)
      refine nv_iconst (pc := 19) (k := 0) hx hb dX1_same_19 rfl ?_
      refine lv_istore (pc := 20) (lv' := [(4, .int (nI (0))), (3, .int (nI (1))), (0, .ref (ad 0)), (1, .int (zI (a))), (2, .int (zI (b)))]) hx hb dX1_same_20 hl (by decide) rfl (fun ls hl => ?_)
      have L22 : ∀ (n9_22 : Nat), ∀ (k : Nat) (t : Nat), 13 - k < n9_22 → (k ≤ 12) → ((t = 1 ∧ ∀ q, q < k → q < phN D → hv a.toNat q = hv b.toNat q) ∨ (t = 0 ∧ ∃ q, q < phN D ∧ hv a.toNat q ≠ hv b.toNat q)) → ∀ (H : Heap) (locs : List Loc) (ls : Array Slot), va_P dd vwCl (wM ad cI cL (P) ((rootN P)) (D) ((phN D)) (ix) (ho) (re) (wk) (tu) (wa) (nx)) H → va_D A (wM ad cI cL (P) ((rootN P)) (D) ((phN D)) (ix) (ho) (re) (wk) (tu) (wa) (nx)) → va_S A s.heap H locs → lv_has ls 5 [(0, .ref (ad 0)), (1, .int (zI (a))), (2, .int (zI (b))), (3, .int (nI (t))), (4, .int (nI (k)))] → W p l e ({ frames := 2, cells := 0, slots := 0, locals := 45 } : Room) s m args below meth c H locs 0 0 Q (F0 m 22 ls []) := by
        intro n9_22
        induction n9_22 with
        | zero => intro k t hm; exact absurd hm (Nat.not_lt_zero _)
        | succ n9_22 ih_22 =>
          intro k t hm_22 hk ht H locs ls hP hD hS hl
          refine lv_iload (pc := 22) hx hb dX1_same_22 (lv_at hl 4 rfl) ?_
          refine nv_bipush (pc := 24) (k := 12) hx hb dX1_same_24 rfl (by decide) ?_
          refine nv_icmp_ge (pc := 26) (tgt := 73) hx hb (a := k) (b := 12) (by omega) (by omega) dX1_same_26 (by decide) (fun h26 => ?_) (fun h26 => ?_)
          · skip
            refine lv_iload_n (pc := 73) hx hb dX1_same_73 rfl (lv_at hl 3 rfl) ?_
            refine nv_if_eq (pc := 74) (tgt := 81) hx hb (a := t) (by omega) dX1_same_74 (by decide) (fun h74 => ?_) (fun h74 => ?_)
            · skip
              refine nv_iconst (pc := 81) (k := 0) hx hb dX1_same_81 rfl ?_
              exact hret _ _ _ _ _ (()) (by rcases ht with z | z; omega; obtain ⟨q9, z1, z2⟩ := z.2; unfold smS; rw [if_pos (by omega), if_neg (fun w => z2 ((smB_iff _ _ _ _).mp w q9 z1))]) hP hD hS dX1_same_82
            · skip
              refine nv_iconst (pc := 77) (k := 1) hx hb dX1_same_77 rfl ?_
              refine lv_goto (pc := 78) (tgt := 82) hx hb dX1_same_78 (by decide) ?_
              exact hret _ _ _ _ _ (()) (by rcases ht with z | z; (unfold smS; rw [if_pos (by omega), if_pos ((smB_iff _ _ _ _).mpr (fun q w => z.2 q (by omega) w))]); omega) hP hD hS dX1_same_82
          · skip
            refine lv_iload_n (pc := 29) hx hb dX1_same_29 rfl (lv_at hl 3 rfl) ?_
            refine nv_if_eq (pc := 30) (tgt := 65) hx hb (a := t) (by omega) dX1_same_30 (by decide) (fun h30 => ?_) (fun h30 => ?_)
            · skip
              refine nv_iconst (pc := 65) (k := 0) hx hb dX1_same_65 rfl ?_
              refine lv_istore_n (pc := 66) (lv' := [(3, .int (nI (0))), (0, .ref (ad 0)), (1, .int (zI (a))), (2, .int (zI (b))), (4, .int (nI (k)))]) hx hb dX1_same_66 rfl hl (by decide) rfl (fun ls hl => ?_)
              refine lv_iinc (pc := 67) (v := nI ((k + 1))) (lv' := [(4, .int (nI ((k + 1)))), (3, .int (nI (0))), (0, .ref (ad 0)), (1, .int (zI (a))), (2, .int (zI (b)))]) hx hb dX1_same_67 hl (k := 4) rfl (nI_inc _) (by decide) rfl (fun ls hl => ?_)
              refine lv_goto (pc := 70) (tgt := 22) hx hb dX1_same_70 (by decide) ?_
              exact ih_22 ((k + 1)) (0) (by omega) (by omega) (by rcases ht with z | z; omega; exact Or.inr ⟨rfl, z.2⟩) _ _ _ hP hD hS (lv_sub hl [2, 3, 4, 1, 0] rfl)
            · skip
              refine lv_aload_n (pc := 33) hx hb dX1_same_33 rfl (lv_at hl 0 rfl) ?_
              refine va_get (pc := 34) (D := dd) (ci := 1) (v := .ref (ad 2)) (C := RX1) (T := TX1) (N := 11) hx hb hts hin hown hK hP 0 rfl rfl 5 (by decide) (hts (.fieldLink RX1 13 "TurningSumsModel" "hold" "[J") (by decide +kernel)) (fun _ h9 => h9) rfl dX1_same_34 ?_
              refine nv_bipush (pc := 37) (k := 12) hx hb dX1_same_37 rfl (by decide) ?_
              refine lv_iload_n (pc := 39) hx hb dX1_same_39 rfl (lv_at hl 1 rfl) ?_
              refine tq_i (y := nI (a.toNat)) (zI_toNat (by omega)) ?_
              refine nv_imul (pc := 40) hx hb dX1_same_40 ?_
              refine lv_iload (pc := 41) hx hb dX1_same_41 (lv_at hl 4 rfl) ?_
              refine nv_iadd (pc := 43) hx hb dX1_same_43 ?_
              refine nv_lald (pc := 44) hx hb hK hP 2 1 rfl rfl (i := ((12 * a.toNat) + k)) (by omega) (by decide) (v := (if k < phN D then zL (hv a.toNat k).toInt else zL 0)) (hL a.toNat (by omega) k (by omega)) dX1_same_44 ?_
              refine lv_aload_n (pc := 45) hx hb dX1_same_45 rfl (lv_at hl 0 rfl) ?_
              refine va_get (pc := 46) (D := dd) (ci := 1) (v := .ref (ad 2)) (C := RX1) (T := TX1) (N := 11) hx hb hts hin hown hK hP 0 rfl rfl 5 (by decide) (hts (.fieldLink RX1 13 "TurningSumsModel" "hold" "[J") (by decide +kernel)) (fun _ h9 => h9) rfl dX1_same_46 ?_
              refine nv_bipush (pc := 49) (k := 12) hx hb dX1_same_49 rfl (by decide) ?_
              refine lv_iload_n (pc := 51) hx hb dX1_same_51 rfl (lv_at hl 2 rfl) ?_
              refine tq_i (y := nI (b.toNat)) (zI_toNat (by omega)) ?_
              refine nv_imul (pc := 52) hx hb dX1_same_52 ?_
              refine lv_iload (pc := 53) hx hb dX1_same_53 (lv_at hl 4 rfl) ?_
              refine nv_iadd (pc := 55) hx hb dX1_same_55 ?_
              refine nv_lald (pc := 56) hx hb hK hP 2 1 rfl rfl (i := ((12 * b.toNat) + k)) (by omega) (by decide) (v := (if k < phN D then zL (hv b.toNat k).toInt else zL 0)) (hL b.toNat (by omega) k (by omega)) dX1_same_56 ?_
              refine W.lcmp (pc := 57) hx hb dX1_same_57 ?_
              refine cv_if_ne (pc := 58) (tgt := 65) hx hb dX1_same_58 (by decide) (fun h58 => ?_) (fun h58 => ?_)
              · skip
                refine nv_iconst (pc := 65) (k := 0) hx hb dX1_same_65 rfl ?_
                refine lv_istore_n (pc := 66) (lv' := [(3, .int (nI (0))), (0, .ref (ad 0)), (1, .int (zI (a))), (2, .int (zI (b))), (4, .int (nI (k)))]) hx hb dX1_same_66 rfl hl (by decide) rfl (fun ls hl => ?_)
                refine lv_iinc (pc := 67) (v := nI ((k + 1))) (lv' := [(4, .int (nI ((k + 1)))), (3, .int (nI (0))), (0, .ref (ad 0)), (1, .int (zI (a))), (2, .int (zI (b)))]) hx hb dX1_same_67 hl (k := 4) rfl (nI_inc _) (by decide) rfl (fun ls hl => ?_)
                refine lv_goto (pc := 70) (tgt := 22) hx hb dX1_same_70 (by decide) ?_
                exact ih_22 ((k + 1)) (0) (by omega) (by omega) (by by_cases q9 : k < phN D; (rw [if_pos q9, if_pos q9] at h58; exact Or.inr ⟨rfl, k, q9, fun z => h58 (by rw [z])⟩); (rw [if_neg q9, if_neg q9] at h58; exact absurd rfl h58)) _ _ _ hP hD hS (lv_sub hl [2, 3, 4, 1, 0] rfl)
              · skip
                refine nv_iconst (pc := 61) (k := 1) hx hb dX1_same_61 rfl ?_
                refine lv_goto (pc := 62) (tgt := 66) hx hb dX1_same_62 (by decide) ?_
                refine lv_istore_n (pc := 66) (lv' := [(3, .int (nI (1))), (0, .ref (ad 0)), (1, .int (zI (a))), (2, .int (zI (b))), (4, .int (nI (k)))]) hx hb dX1_same_66 rfl hl (by decide) rfl (fun ls hl => ?_)
                refine lv_iinc (pc := 67) (v := nI ((k + 1))) (lv' := [(4, .int (nI ((k + 1)))), (3, .int (nI (1))), (0, .ref (ad 0)), (1, .int (zI (a))), (2, .int (zI (b)))]) hx hb dX1_same_67 hl (k := 4) rfl (nI_inc _) (by decide) rfl (fun ls hl => ?_)
                refine lv_goto (pc := 70) (tgt := 22) hx hb dX1_same_70 (by decide) ?_
                exact ih_22 ((k + 1)) (1) (by omega) (by omega) (by rcases ht with z | z; (exact Or.inl ⟨rfl, fun q w1 w2 => (Nat.lt_or_ge q k).elim (fun w => z.2 q w w2) (fun w => by have e : q = k := (by omega); subst e; rw [if_pos w2, if_pos w2] at h58; exact zL_inj h58)⟩); omega) _ _ _ hP hD hS (lv_sub hl [2, 3, 4, 1, 0] rfl)
      exact L22 _ (0) (1) (Nat.lt_succ_self _) (by omega) (Or.inl ⟨rfl, fun q z => by omega⟩) _ _ _ hP hD hS (lv_sub hl [2, 3, 4, 1, 0] rfl)
    · skip
      refine lv_bipush (pc := 14) (v := zI (-2)) hx hb dX1_same_14 (by decide) ?_
      exact hret _ _ _ _ _ (()) (by unfold smS; rw [if_neg (by omega)]) hP hD hS dX1_same_16
set_option maxHeartbeats 4000000 in
set_option maxRecDepth 100000 in
theorem c_X1_empty (l : Launch) (dd : va_G) {ad : Nat → Nat} {cI cL cQ : ClassId}  {P : Nat} {G : Nat} {D : Nat} {F : Nat} {ix : Nat → Int32} {ho : Nat → Int64} {re : Nat → Int32} {wk : Nat → Int64} {tu : Nat → Int64} {wa : Nat → Int64} {nx : Nat → Int64}   : CTv l yX1_empty wsX1_empty ({ frames := 0, cells := 0, slots := 0, locals := 0 } : Room) dd (tysA cI cL cQ) (am_no) [.ref (ad 0)] (wM ad cI cL (P) (G) (D) (F) (ix) (ho) (re) (wk) (tu) (wa) (nx)) (fun (u : Nat → Int64) => ∀ k, k < 24 → u k = zL 0) (fun (u : Nat → Int64) => (wM ad cI cL (P) (G) (D) (F) (ix) (ho) (re) (u) (tu) (wa) (nx))) := by
  refine CTv_of (cc := cX1_empty) (maxL := 2) (by decide +kernel) rfl (Nat.le_of_ble_eq_true rfl) ?_
  intro p e s m args below meth c A Q ls H locs hx hb hts hown hml hP hK hD hS hA hX hl hret
  have hin : ∀ w ∈ wsX10, w ∈ wsX1_empty := by decide +kernel
  have hl : lv_has ls 2 [(0, .ref (ad 0))] := hl
  refine nv_iconst (pc := 0) (k := 0) hx hb dX1_empty_0 rfl ?_
  refine lv_istore_n (pc := 1) (lv' := [(1, .int (nI (0))), (0, .ref (ad 0))]) hx hb dX1_empty_1 rfl hl (by decide) rfl (fun ls hl => ?_)
  have L2 : ∀ (n9_2 : Nat), ∀ (k : Nat) (wv : Nat → Int64), 25 - k < n9_2 → (k ≤ 24) → (∀ a, a < k → wv a = zL 0) → ∀ (H : Heap) (locs : List Loc) (ls : Array Slot), va_P dd vwCl (wM ad cI cL (P) (G) (D) (F) (ix) (ho) (re) (wv) (tu) (wa) (nx)) H → va_D A (wM ad cI cL (P) (G) (D) (F) (ix) (ho) (re) (wv) (tu) (wa) (nx)) → va_S A s.heap H locs → lv_has ls 2 [(0, .ref (ad 0)), (1, .int (nI (k)))] → W p l e ({ frames := 0, cells := 0, slots := 0, locals := 0 } : Room) s m args below meth c H locs 0 0 Q (F0 m 2 ls []) := by
    intro n9_2
    induction n9_2 with
    | zero => intro k wv hm; exact absurd hm (Nat.not_lt_zero _)
    | succ n9_2 ih_2 =>
      intro k wv hm_2 hk hz H locs ls hP hD hS hl
      refine lv_iload_n (pc := 2) hx hb dX1_empty_2 rfl (lv_at hl 1 rfl) ?_
      refine nv_bipush (pc := 3) (k := 24) hx hb dX1_empty_3 rfl (by decide) ?_
      refine nv_icmp_ge (pc := 5) (tgt := 21) hx hb (a := k) (b := 24) (by omega) (by omega) dX1_empty_5 (by decide) (fun h5 => ?_) (fun h5 => ?_)
      · skip
        exact hret _ _ _ _ (wv) (fun a b => hz a (by omega)) hP hD hS dX1_empty_21
      · skip
        refine lv_aload_n (pc := 8) hx hb dX1_empty_8 rfl (lv_at hl 0 rfl) ?_
        refine va_get (pc := 9) (D := dd) (ci := 1) (v := .ref (ad 4)) (C := RX1) (T := TX1) (N := 11) hx hb hts hin hown hK hP 0 rfl rfl 7 (by decide) (hts (.fieldLink RX1 20 "TurningSumsModel" "work" "[J") (by decide +kernel)) (fun _ h9 => h9) rfl dX1_empty_9 ?_
        refine lv_iload_n (pc := 12) hx hb dX1_empty_12 rfl (lv_at hl 1 rfl) ?_
        refine lv_lconst (pc := 13) (v := zL 0) hx hb dX1_empty_13 (by decide) ?_
        refine nv_last (pc := 14) hx hb hK hP hD hS 4 1 rfl rfl (by omega) (by decide) (ws' := (wM ad cI cL (P) (G) (D) (F) (ix) (ho) (re) ((vp_updL (wv) (k) (zL 0))) (tu) (wa) (nx))) rfl dX1_empty_14 (fun H locs hP hD hS => ?_)
        refine lv_iinc (pc := 15) (v := nI ((k + 1))) (lv' := [(1, .int (nI ((k + 1)))), (0, .ref (ad 0))]) hx hb dX1_empty_15 hl (k := 1) rfl (nI_inc _) (by decide) rfl (fun ls hl => ?_)
        refine lv_goto (pc := 18) (tgt := 2) hx hb dX1_empty_18 (by decide) ?_
        exact ih_2 ((k + 1)) ((vp_updL (wv) (k) (zL 0))) (by omega) (by omega) (updcL hz) _ _ _ hP hD hS (lv_sub hl [1, 0] rfl)
  exact L2 _ (0) (wk) (Nat.lt_succ_self _) (by omega) (fun a b => by omega) _ _ _ hP hD hS (lv_sub hl [1, 0] rfl)
end
section
/-! PURE 4: whole combinations, brought down -/
def rhT1 : List (List Int) := [[1], [1], [1], [1], [1], [1], [1], [1], [1], [1], [1], [1], [1], [1], [1], [1], [1], [1], [1], [1], [1], [1], [1], [1]]
def rhT2 : List (List Int) := [[1], [(-1)], [1], [(-1)], [1], [(-1)], [1], [(-1)], [1], [(-1)], [1], [(-1)], [1], [(-1)], [1], [(-1)], [1], [(-1)], [1], [(-1)], [1], [(-1)], [1], [(-1)]]
def rhT3 : List (List Int) := [[1, 0], [0, 1], [(-1), (-1)], [1, 0], [0, 1], [(-1), (-1)], [1, 0], [0, 1], [(-1), (-1)], [1, 0], [0, 1], [(-1), (-1)], [1, 0], [0, 1], [(-1), (-1)], [1, 0], [0, 1], [(-1), (-1)], [1, 0], [0, 1], [(-1), (-1)], [1, 0], [0, 1], [(-1), (-1)]]
def rhT4 : List (List Int) := [[1, 0], [0, 1], [(-1), 0], [0, (-1)], [1, 0], [0, 1], [(-1), 0], [0, (-1)], [1, 0], [0, 1], [(-1), 0], [0, (-1)], [1, 0], [0, 1], [(-1), 0], [0, (-1)], [1, 0], [0, 1], [(-1), 0], [0, (-1)], [1, 0], [0, 1], [(-1), 0], [0, (-1)]]
def rhT5 : List (List Int) := [[1, 0, 0, 0], [0, 1, 0, 0], [0, 0, 1, 0], [0, 0, 0, 1], [(-1), (-1), (-1), (-1)], [1, 0, 0, 0], [0, 1, 0, 0], [0, 0, 1, 0], [0, 0, 0, 1], [(-1), (-1), (-1), (-1)], [1, 0, 0, 0], [0, 1, 0, 0], [0, 0, 1, 0], [0, 0, 0, 1], [(-1), (-1), (-1), (-1)], [1, 0, 0, 0], [0, 1, 0, 0], [0, 0, 1, 0], [0, 0, 0, 1], [(-1), (-1), (-1), (-1)], [1, 0, 0, 0], [0, 1, 0, 0], [0, 0, 1, 0], [0, 0, 0, 1]]
def rhT6 : List (List Int) := [[1, 0], [0, 1], [(-1), 1], [(-1), 0], [0, (-1)], [1, (-1)], [1, 0], [0, 1], [(-1), 1], [(-1), 0], [0, (-1)], [1, (-1)], [1, 0], [0, 1], [(-1), 1], [(-1), 0], [0, (-1)], [1, (-1)], [1, 0], [0, 1], [(-1), 1], [(-1), 0], [0, (-1)], [1, (-1)]]
def rhT7 : List (List Int) := [[1, 0, 0, 0, 0, 0], [0, 1, 0, 0, 0, 0], [0, 0, 1, 0, 0, 0], [0, 0, 0, 1, 0, 0], [0, 0, 0, 0, 1, 0], [0, 0, 0, 0, 0, 1], [(-1), (-1), (-1), (-1), (-1), (-1)], [1, 0, 0, 0, 0, 0], [0, 1, 0, 0, 0, 0], [0, 0, 1, 0, 0, 0], [0, 0, 0, 1, 0, 0], [0, 0, 0, 0, 1, 0], [0, 0, 0, 0, 0, 1], [(-1), (-1), (-1), (-1), (-1), (-1)], [1, 0, 0, 0, 0, 0], [0, 1, 0, 0, 0, 0], [0, 0, 1, 0, 0, 0], [0, 0, 0, 1, 0, 0], [0, 0, 0, 0, 1, 0], [0, 0, 0, 0, 0, 1], [(-1), (-1), (-1), (-1), (-1), (-1)], [1, 0, 0, 0, 0, 0], [0, 1, 0, 0, 0, 0], [0, 0, 1, 0, 0, 0]]
def rhT8 : List (List Int) := [[1, 0, 0, 0], [0, 1, 0, 0], [0, 0, 1, 0], [0, 0, 0, 1], [(-1), 0, 0, 0], [0, (-1), 0, 0], [0, 0, (-1), 0], [0, 0, 0, (-1)], [1, 0, 0, 0], [0, 1, 0, 0], [0, 0, 1, 0], [0, 0, 0, 1], [(-1), 0, 0, 0], [0, (-1), 0, 0], [0, 0, (-1), 0], [0, 0, 0, (-1)], [1, 0, 0, 0], [0, 1, 0, 0], [0, 0, 1, 0], [0, 0, 0, 1], [(-1), 0, 0, 0], [0, (-1), 0, 0], [0, 0, (-1), 0], [0, 0, 0, (-1)]]
def rhT9 : List (List Int) := [[1, 0, 0, 0, 0, 0], [0, 1, 0, 0, 0, 0], [0, 0, 1, 0, 0, 0], [0, 0, 0, 1, 0, 0], [0, 0, 0, 0, 1, 0], [0, 0, 0, 0, 0, 1], [(-1), 0, 0, (-1), 0, 0], [0, (-1), 0, 0, (-1), 0], [0, 0, (-1), 0, 0, (-1)], [1, 0, 0, 0, 0, 0], [0, 1, 0, 0, 0, 0], [0, 0, 1, 0, 0, 0], [0, 0, 0, 1, 0, 0], [0, 0, 0, 0, 1, 0], [0, 0, 0, 0, 0, 1], [(-1), 0, 0, (-1), 0, 0], [0, (-1), 0, 0, (-1), 0], [0, 0, (-1), 0, 0, (-1)], [1, 0, 0, 0, 0, 0], [0, 1, 0, 0, 0, 0], [0, 0, 1, 0, 0, 0], [0, 0, 0, 1, 0, 0], [0, 0, 0, 0, 1, 0], [0, 0, 0, 0, 0, 1]]
def rhT10 : List (List Int) := [[1, 0, 0, 0], [0, 1, 0, 0], [0, 0, 1, 0], [0, 0, 0, 1], [(-1), 1, (-1), 1], [(-1), 0, 0, 0], [0, (-1), 0, 0], [0, 0, (-1), 0], [0, 0, 0, (-1)], [1, (-1), 1, (-1)], [1, 0, 0, 0], [0, 1, 0, 0], [0, 0, 1, 0], [0, 0, 0, 1], [(-1), 1, (-1), 1], [(-1), 0, 0, 0], [0, (-1), 0, 0], [0, 0, (-1), 0], [0, 0, 0, (-1)], [1, (-1), 1, (-1)], [1, 0, 0, 0], [0, 1, 0, 0], [0, 0, 1, 0], [0, 0, 0, 1]]
def rhT11 : List (List Int) := [[1, 0, 0, 0, 0, 0, 0, 0, 0, 0], [0, 1, 0, 0, 0, 0, 0, 0, 0, 0], [0, 0, 1, 0, 0, 0, 0, 0, 0, 0], [0, 0, 0, 1, 0, 0, 0, 0, 0, 0], [0, 0, 0, 0, 1, 0, 0, 0, 0, 0], [0, 0, 0, 0, 0, 1, 0, 0, 0, 0], [0, 0, 0, 0, 0, 0, 1, 0, 0, 0], [0, 0, 0, 0, 0, 0, 0, 1, 0, 0], [0, 0, 0, 0, 0, 0, 0, 0, 1, 0], [0, 0, 0, 0, 0, 0, 0, 0, 0, 1], [(-1), (-1), (-1), (-1), (-1), (-1), (-1), (-1), (-1), (-1)], [1, 0, 0, 0, 0, 0, 0, 0, 0, 0], [0, 1, 0, 0, 0, 0, 0, 0, 0, 0], [0, 0, 1, 0, 0, 0, 0, 0, 0, 0], [0, 0, 0, 1, 0, 0, 0, 0, 0, 0], [0, 0, 0, 0, 1, 0, 0, 0, 0, 0], [0, 0, 0, 0, 0, 1, 0, 0, 0, 0], [0, 0, 0, 0, 0, 0, 1, 0, 0, 0], [0, 0, 0, 0, 0, 0, 0, 1, 0, 0], [0, 0, 0, 0, 0, 0, 0, 0, 1, 0], [0, 0, 0, 0, 0, 0, 0, 0, 0, 1], [(-1), (-1), (-1), (-1), (-1), (-1), (-1), (-1), (-1), (-1)], [1, 0, 0, 0, 0, 0, 0, 0, 0, 0], [0, 1, 0, 0, 0, 0, 0, 0, 0, 0]]
def rhT12 : List (List Int) := [[1, 0, 0, 0], [0, 1, 0, 0], [0, 0, 1, 0], [0, 0, 0, 1], [(-1), 0, 1, 0], [0, (-1), 0, 1], [(-1), 0, 0, 0], [0, (-1), 0, 0], [0, 0, (-1), 0], [0, 0, 0, (-1)], [1, 0, (-1), 0], [0, 1, 0, (-1)], [1, 0, 0, 0], [0, 1, 0, 0], [0, 0, 1, 0], [0, 0, 0, 1], [(-1), 0, 1, 0], [0, (-1), 0, 1], [(-1), 0, 0, 0], [0, (-1), 0, 0], [0, 0, (-1), 0], [0, 0, 0, (-1)], [1, 0, (-1), 0], [0, 1, 0, (-1)]]
def rhT : List (List (List Int)) := [[], rhT1, rhT2, rhT3, rhT4, rhT5, rhT6, rhT7, rhT8, rhT9, rhT10, rhT11, rhT12]
/-- the place j of z^k brought down -/
def rho (D k j : Nat) : Int := ((rhT.getD D []).getD k []).getD j 0
def siS (f : Nat → Int) : Nat → Int
  | 0 => 0
  | n + 1 => siS f n + f n
def slS (f : Nat → Int64) : Nat → Int64
  | 0 => 0
  | n + 1 => slS f n + f n
theorem rho_1 : ∀ D, D < 13 → (1 ≤ D → ∀ k, k < phN D → ∀ j, j < phN D → rho D k j = if k = j then 1 else 0) := by decide +kernel
theorem rho_2 : ∀ D, D < 13 → (1 ≤ D → ∀ k, k < 24 → (phN D ≤ k → ∀ j, j < phN D → rho D k j = - siS (fun i => relC ((D - 1) * 10 + i) * rho D (k - phN D + i) j) (phN D))) := by decide +kernel
theorem rho_3 : ∀ D, D < 13 → (1 ≤ D → ∀ k, k < 24 → ∀ j, j < phN D → rho D k j = rho D (k % D) j) := by decide +kernel
theorem rho_4 : ∀ D, D < 13 → (1 ≤ D → ∀ e, e < D → ∀ i, i < phN D → ∀ j, j < phN D → siS (fun m => rho D e m * rho D (i + m) j) (phN D) = rho D ((i + e) % D) j) := by decide +kernel
theorem relC_rng (n : Nat) : -1 ≤ relC n ∧ relC n ≤ 1 := by
  rcases Nat.lt_or_ge n 120 with h | h
  · exact (by decide +kernel : ∀ n, n < 120 → (-1 ≤ relC n ∧ relC n ≤ 1)) n h
  · unfold relC
    rw [List.getD_eq_getElem?_getD, List.getElem?_eq_none (by have : relT.length = 120 := (by decide +kernel); omega)]
    decide
theorem relM_rng (D n : Nat) : -1 ≤ relM D n ∧ relM D n ≤ 1 := by
  unfold relM
  have := relC_rng ((D - 1) * 10 + n)
  split
  · omega
  · split <;> omega
theorem zL_0 : zL 0 = 0 := by decide
theorem zL_1 : zL 1 = 1 := by decide
theorem slS_congr {f g : Nat → Int64} : ∀ {n : Nat}, (∀ k, k < n → f k = g k) → slS f n = slS g n
  | 0, _ => rfl
  | n + 1, h => by
    unfold slS
    rw [slS_congr (fun k hk => h k (by omega)), h n (by omega)]
theorem slS_add (f g : Nat → Int64) : ∀ n, slS (fun k => f k + g k) n = slS f n + slS g n
  | 0 => (show (0 : Int64) = 0 + 0 by decide)
  | n + 1 => by
    unfold slS
    rw [slS_add f g n]
    grind
theorem slS_mul (a : Int64) (f : Nat → Int64) : ∀ n, slS (fun k => a * f k) n = a * slS f n
  | 0 => (Int64.mul_zero).symm
  | n + 1 => by
    unfold slS
    rw [slS_mul a f n]
    grind
theorem slS_zero {f : Nat → Int64} : ∀ {n : Nat}, (∀ k, k < n → f k = 0) → slS f n = 0
  | 0, _ => rfl
  | n + 1, h => by
    unfold slS
    rw [slS_zero (fun k hk => h k (by omega)), h n (by omega)]
    decide
theorem slS_tail (g : Nat → Int64) (a : Nat) : ∀ n, slS (fun m => if a ≤ m then g (m - a) else 0) (a + n) = slS g n
  | 0 => slS_zero (fun k hk => if_neg (by omega))
  | n + 1 => by
    show slS _ (a + n) + _ = slS g n + g n
    rw [slS_tail g a n]
    show _ + (if a ≤ a + n then g (a + n - a) else 0) = _
    rw [if_pos (by omega), show a + n - a = n by omega]
theorem slS_swap (f : Nat → Nat → Int64) (m : Nat) : ∀ n, slS (fun i => slS (fun k => f i k) m) n = slS (fun k => slS (fun i => f i k) n) m
  | 0 => (slS_zero (fun k _ => rfl)).symm
  | n + 1 => by
    show slS _ n + slS _ m = _
    rw [slS_swap f m n, ← slS_add]
    rfl
theorem zL_siS (f : Nat → Int) : ∀ n, zL (siS f n) = slS (fun k => zL (f k)) n
  | 0 => zL_0
  | n + 1 => by
    show zL (siS f n + f n) = slS _ n + zL (f n)
    rw [← zL_siS f n, zL_add]
theorem slS_upd (w c : Nat → Int64) (e : Nat) (v : Int64) : ∀ n, slS (fun k => vp_updL w e (w e + v) k * c k) n = slS (fun k => w k * c k) n + (if e < n then v * c e else 0)
  | 0 => by rw [if_neg (by omega)]; exact (show (0 : Int64) = 0 + 0 by decide)
  | n + 1 => by
    show slS _ n + _ * _ = (slS _ n + _ * _) + _
    rw [slS_upd w c e v n]
    unfold vp_updL
    by_cases h : n = e
    · subst h
      rw [if_pos rfl, if_neg (by omega), if_pos (by omega)]
      grind
    · rw [if_neg h]
      by_cases h2 : e < n
      · rw [if_pos h2, if_pos (by omega)]
        grind
      · rw [if_neg h2, if_neg (by omega)]
        grind
/-- what w's powers come to at the place j -/
def Lf (D j : Nat) (w : Nat → Int64) (n : Nat) : Int64 := slS (fun k => w k * zL (rho D k j)) n
theorem Lf_add {D j e n : Nat} {w : Nat → Int64} {v : Int64} (h : e < n) : Lf D j (vp_updL w e (w e + v)) n = Lf D j w n + v * zL (rho D e j) := by
  unfold Lf
  rw [slS_upd, if_pos h]
theorem Lf_zero {D j n : Nat} {w : Nat → Int64} (h : ∀ m, m < n → w m = zL 0) : Lf D j w n = 0 := slS_zero (fun k hk => by
  show w k * _ = 0
  rw [h k hk, zL_0, Int64.zero_mul])
theorem Lf_set {D j e n : Nat} {w : Nat → Int64} {v : Int64} (hz : ∀ m, m < n → w m = zL 0) (h : e < n) : Lf D j (vp_updL w e v) n = v * zL (rho D e j) := by
  have h1 := Lf_add (D := D) (j := j) (w := w) (v := v) h
  rw [hz e h, zL_0, Int64.zero_add, Lf_zero hz, Int64.zero_add] at h1
  exact h1
theorem Lf_end {D j : Nat} {w : Nat → Int64} (hD : 1 ≤ D ∧ D ≤ 12) (hj : j < phN D) : ∀ n, n ≤ phN D → Lf D j w n = if j < n then w j else 0
  | 0, _ => by rw [if_neg (by omega)]; rfl
  | n + 1, hn => by
    show Lf D j w n + w n * zL (rho D n j) = _
    rw [Lf_end hD hj n (by omega), rho_1 D (by omega) hD.1 n (by omega) j hj]
    by_cases h : n = j
    · subst h
      rw [if_neg (by omega), if_pos rfl, if_pos (by omega), zL_1, Int64.mul_one, Int64.zero_add]
    · rw [if_neg h, zL_0, Int64.mul_zero, Int64.add_zero]
      by_cases h2 : j < n
      · rw [if_pos h2, if_pos (by omega)]
      · rw [if_neg h2, if_neg (by omega)]
theorem Lf_at {D j : Nat} {w : Nat → Int64} (hD : 1 ≤ D ∧ D ≤ 12) (hj : j < phN D) : Lf D j w (phN D) = w j := by
  rw [Lf_end hD hj _ (Nat.le_refl _), if_pos hj]
theorem Lf_low {D j : Nat} {w : Nat → Int64} (hD : 1 ≤ D ∧ D ≤ 12) (hj : j < phN D) : ∀ n, phN D ≤ n → (∀ m, phN D ≤ m → m < n → w m = zL 0) → Lf D j w n = w j := by
  intro n hn hz
  obtain ⟨k, rfl⟩ : ∃ k, n = phN D + k := ⟨n - phN D, by omega⟩
  clear hn
  induction k with
  | zero => exact Lf_at hD hj
  | succ k ih =>
    show Lf D j w (phN D + k) + w (phN D + k) * _ = _
    rw [ih (fun m a b => hz m a (by omega)), hz (phN D + k) (by omega) (by omega), zL_0, Int64.zero_mul, Int64.add_zero]
theorem Lf_step {D j k : Nat} {w w2 : Nat → Int64} (hD : 1 ≤ D ∧ D ≤ 12) (hj : j < phN D) (h1 : phN D ≤ k) (h2 : k < 24)
    (h : ∀ m, m < k → w2 m = if k - phN D ≤ m then w m - w k * zL (relC ((D - 1) * 10 + (m - (k - phN D)))) else w m) : Lf D j w2 k = Lf D j w (k + 1) := by
  have e1 : Lf D j w2 k = slS (fun m => w m * zL (rho D m j) + (if k - phN D ≤ m then (fun i => (- w k) * (zL (relC ((D - 1) * 10 + i) * rho D (k - phN D + i) j))) (m - (k - phN D)) else 0)) k := by
    unfold Lf
    refine slS_congr (fun m hm => ?_)
    show w2 m * _ = _
    rw [h m hm]
    by_cases q : k - phN D ≤ m
    · rw [if_pos q, if_pos q]
      show _ = _ + (- w k) * _
      rw [show k - phN D + (m - (k - phN D)) = m by omega, ← zL_mul]
      grind
    · rw [if_neg q, if_neg q]
      grind
  rw [e1, slS_add]
  have e2 := slS_tail (fun i => (- w k) * (zL (relC ((D - 1) * 10 + i) * rho D (k - phN D + i) j))) (k - phN D) (phN D)
  rw [show k - phN D + phN D = k by omega] at e2
  rw [e2, slS_mul, ← zL_siS]
  have e3 := rho_2 D (by omega) hD.1 k h2 h1 j hj
  show Lf D j w k + _ = Lf D j w k + w k * zL (rho D k j)
  rw [e3, ← zL_neg]
  grind
/-- a row that is brought down, one place further -/
theorem rd_s {D h i : Nat} {w w2 : Nat → Int64} {rl : Nat → Int} (hF : phN D ≤ h) (hi : i ≤ phN D)
    (hw : ∀ m, w2 m = if h - phN D ≤ m ∧ m < h - phN D + i then w m - w h * zL (rl (m - (h - phN D))) else w m) :
    ∀ m, vp_updL w2 (h - phN D + i) (w2 (h - phN D + i) - w h * zL (rl i)) m = if h - phN D ≤ m ∧ m < h - phN D + (i + 1) then w m - w h * zL (rl (m - (h - phN D))) else w m := by
  intro m
  unfold vp_updL
  by_cases q : m = h - phN D + i
  · rw [if_pos q, if_pos (by omega), hw (h - phN D + i), if_neg (by omega), q, show h - phN D + i - (h - phN D) = i by omega]
  · rw [if_neg q, hw m]
    by_cases q2 : h - phN D ≤ m ∧ m < h - phN D + i
    · rw [if_pos q2, if_pos (by omega)]
    · rw [if_neg q2, if_neg (by omega)]
theorem rd_top {D h i : Nat} {w w2 : Nat → Int64} {rl : Nat → Int} (hF : phN D ≤ h) (hi : i ≤ phN D)
    (hw : ∀ m, w2 m = if h - phN D ≤ m ∧ m < h - phN D + i then w m - w h * zL (rl (m - (h - phN D))) else w m) : w2 h = w h := by
  rw [hw h, if_neg (by omega)]
theorem rd_out {D j h : Nat} {w w2 : Nat → Int64} (hD : 1 ≤ D ∧ D ≤ 12) (hj : j < phN D) (hF : phN D ≤ h) (h2 : h < 24) (h0 : 1 ≤ h)
    (hw : ∀ m, w2 m = if h - phN D ≤ m ∧ m < h - phN D + phN D then w m - w h * zL (relC ((D - 1) * 10 + (m - (h - phN D)))) else w m) : Lf D j (vp_updL w2 h (zL 0)) (h - 1 + 1) = Lf D j w (h + 1) := by
  rw [show h - 1 + 1 = h by omega]
  refine Lf_step hD hj hF h2 (fun m hm => ?_)
  unfold vp_updL
  rw [if_neg (by omega), hw m]
  by_cases q : h - phN D ≤ m
  · rw [if_pos (by omega), if_pos q]
  · rw [if_neg (by omega), if_neg q]
theorem rd_outM {D j h i : Nat} {w w2 : Nat → Int64} (hD : 1 ≤ D ∧ D ≤ 12) (hj : j < phN D) (hF : phN D ≤ h) (h2 : h < 24) (h0 : 1 ≤ h) (hi : i = phN D + 1 ∨ w h = zL 0)
    (hw : ∀ m, w2 m = if h - phN D ≤ m ∧ m < h - phN D + i then w m - w h * zL (relM D (m - (h - phN D))) else w m) : Lf D j w2 (h - 1 + 1) = Lf D j w (h + 1) := by
  rw [show h - 1 + 1 = h by omega]
  refine Lf_step hD hj hF h2 (fun m hm => ?_)
  rw [hw m]
  have e : ∀ q, q < phN D → relM D q = relC ((D - 1) * 10 + q) := fun q hq => by
    unfold relM
    rw [if_neg (by omega), if_pos hq]
  by_cases q : h - phN D ≤ m
  · rw [if_pos q]
    rcases hi with hi | hi
    · rw [if_pos (by omega), e _ (by omega)]
    · rw [hi, zL_0, Int64.zero_mul, Int64.zero_mul]
      split <;> grind
  · rw [if_neg (by omega), if_neg q]
/-! the vectors that the calls lay down -/
theorem rt_ok {x : Int64} (h : -100000000 ≤ x.toInt ∧ x.toInt ≤ 100000000) : zL x.toInt32.toInt = x := by
  have e : x.toInt32 = zI x.toInt := by
    have := zL_toI x.toInt
    rwa [zL_of] at this
  rw [e, zI_toInt (by omega) (by omega), zL_of]
def inR (D : Nat) (v : Nat → Int64) : Prop := ∀ j, j < phN D → -100000000 ≤ (v j).toInt ∧ (v j).toInt ≤ 100000000
def stR (hv : Nat → Nat → Int32) (h : Nat) (v : Nat → Int64) : Nat → Nat → Int32 := va_up hv h (fun i => (v i).toInt32)
theorem stR_at {hv : Nat → Nat → Int32} {h : Nat} {v : Nat → Int64} {a b : Nat} : stR hv h v a b = if a = h then (v b).toInt32 else hv a b := by
  unfold stR
  by_cases q : a = h
  · rw [q, va_up_self, if_pos rfl]
  · rw [va_up_ne _ _ q, if_neg q]
theorem lt_zL {x : Int64} {z : Int} (hz : -9223372036854775808 ≤ z ∧ z < 9223372036854775808) : x < zL z ↔ x.toInt < z := by
  rw [Int64.lt_iff_toInt_lt, zL_toInt hz.1 hz.2]
theorem le_zL {x : Int64} {z : Int} (hz : -9223372036854775808 ≤ z ∧ z < 9223372036854775808) : x ≤ zL z ↔ x.toInt ≤ z := by
  rw [Int64.le_iff_toInt_le, zL_toInt hz.1 hz.2]
theorem zL_le' {x : Int64} {z : Int} (hz : -9223372036854775808 ≤ z ∧ z < 9223372036854775808) : zL z ≤ x ↔ z ≤ x.toInt := by
  rw [Int64.le_iff_toInt_le, zL_toInt hz.1 hz.2]
theorem wr_C {hv hdv : Nat → Nat → Int32} {v : Nat → Int64} {h i F : Nat} (hz : ∀ a, a < 6 → ∀ b, b < F → hdv a b = if a = h ∧ b < i then (v b).toInt32 else hv a b) :
    ∀ a, a < 6 → ∀ b, b < F → va_up hdv h (upd (hdv h) i (v i).toInt32) a b = if a = h ∧ b < i + 1 then (v b).toInt32 else hv a b := by
  intro a ha b hb
  by_cases q : a = h
  · subst q
    rw [va_up_self]
    unfold upd
    by_cases q2 : b = i
    · rw [if_pos q2, if_pos ⟨rfl, by omega⟩, q2]
    · rw [if_neg q2, hz a ha b hb]
      by_cases q3 : b < i
      · rw [if_pos ⟨rfl, q3⟩, if_pos ⟨rfl, by omega⟩]
      · rw [if_neg (fun w => q3 w.2), if_neg (fun w => by omega)]
  · rw [va_up_ne _ _ q, hz a ha b hb, if_neg (fun w => q w.1), if_neg (fun w => q w.1)]
theorem wr_M {hov : Nat → Int64} {g : Nat → Nat → Int64} {x : Nat → Int64} {h k : Nat} {y : Int64} (hy : y = x k) (hk : k < 12) (hz : ∀ a, a < 6 → ∀ b, b < 12 → hov (12 * a + b) = if a = h ∧ b < k then x b else g a b) :
    ∀ a, a < 6 → ∀ b, b < 12 → vp_updL hov (12 * h + k) y (12 * a + b) = if a = h ∧ b < k + 1 then x b else g a b := by
  intro a ha b hb
  unfold vp_updL
  by_cases q : 12 * a + b = 12 * h + k
  · have e1 : a = h := by omega
    have e2 : b = k := by omega
    rw [if_pos q, if_pos ⟨e1, by omega⟩, hy, e2]
  · rw [if_neg q, hz a ha b hb]
    by_cases q2 : a = h ∧ b < k
    · rw [if_pos q2, if_pos ⟨q2.1, by omega⟩]
    · rw [if_neg q2, if_neg (fun w => q2 ⟨w.1, by omega⟩)]
theorem okL_st {D : Nat} {hv : Nat → Nat → Int32} {ho : Nat → Int64} {v : Nat → Int64} {h : Nat} (hr : inR D v)
    (hz : ∀ a, a < 6 → ∀ b, b < 12 → ho (12 * a + b) = if a = h ∧ b < 12 then (if b < phN D then v b else zL 0) else (if b < phN D then zL (hv a b).toInt else zL 0)) : okL D (stR hv h v) ho := by
  intro a ha b hb
  rw [hz a ha b hb, stR_at]
  by_cases q : a = h
  · rw [if_pos ⟨q, hb⟩, if_pos q]
    by_cases q2 : b < phN D
    · rw [if_pos q2, if_pos q2, rt_ok (hr b q2)]
    · rw [if_neg q2, if_neg q2]
  · rw [if_neg (fun w => q w.1), if_neg q]
theorem inR_congr {D : Nat} {v w : Nat → Int64} (h : ∀ j, j < phN D → v j = w j) (hr : inR D v) : inR D w := fun j hj => by rw [← h j hj]; exact hr j hj
theorem okH_congr {D : Nat} {hv hd : Nat → Nat → Int32} {v w : Nat → Int64} {h0 : Nat} (h : ∀ j, j < phN D → v j = w j) (hr : okH D (stR hv h0 v) hd) : okH D (stR hv h0 w) hd := fun a ha b hb => by
  rw [hr a ha b hb, stR_at, stR_at, h b hb]
theorem okL_congr {D : Nat} {hv : Nat → Nat → Int32} {ho : Nat → Int64} {v w : Nat → Int64} {h0 : Nat} (h : ∀ j, j < phN D → v j = w j) (hr : okL D (stR hv h0 v) ho) : okL D (stR hv h0 w) ho := fun a ha b hb => by
  rw [hr a ha b hb]
  by_cases q : b < phN D
  · rw [if_pos q, if_pos q, stR_at, stR_at, h b q]
  · rw [if_neg q, if_neg q]
def sumE (P D : Nat) (a b : Int) (x : Nat) : Nat := fmN (a * ((clsN P D x : Nat) : Int) + b * ((clsN P D (P + 1 - x) : Nat) : Int)) D
def sumV (P D : Nat) (a b : Int) (n j : Nat) : Int64 := slS (fun x => if 2 ≤ x then zL (rho D (sumE P D a b x) j) else 0) n
theorem sumV_s {P D : Nat} {a b : Int} {x j : Nat} (hx : 2 ≤ x) : sumV P D a b (x + 1) j = sumV P D a b x j + zL 1 * zL (rho D (sumE P D a b x) j) := by
  show _ + (if 2 ≤ x then zL (rho D (sumE P D a b x) j) else 0) = _
  rw [if_pos hx, zL_1, Int64.one_mul]
  rfl
theorem sumV_2 {P D : Nat} {a b : Int} {j : Nat} : sumV P D a b 2 j = 0 := slS_zero (fun k hk => if_neg (by omega))
theorem fm_lin {a b : Int} {D u v : Nat} (hD : 0 < D) : (fmN a D * u + fmN b D * v) % D = fmN (a * (u : Int) + b * (v : Int)) D := by
  have h1 := fmN_cast a hD
  have h2 := fmN_cast b hD
  have h3 : (((fmN a D * u + fmN b D * v) % D : Nat) : Int) = ((fmN (a * (u : Int) + b * (v : Int)) D : Nat) : Int) := by
    rw [fmN_cast _ hD]
    simp only [Int.natCast_emod, Int.natCast_add, Int.natCast_mul, h1, h2]
    rw [Int.add_emod (a % (D : Int) * (u : Int)), Int.mul_emod (a % (D : Int)), Int.mul_emod (b % (D : Int)), Int.emod_emod, Int.emod_emod, ← Int.mul_emod, ← Int.mul_emod, ← Int.add_emod]
  exact Int.ofNat.inj h3
theorem fm_one {t : Int} {D k : Nat} (hD : 0 < D) : (k * fmN t D) % D = fmN ((k : Int) * t) D := by
  have h := fm_lin (a := t) (b := 0) (u := k) (v := 0) hD
  rw [Nat.mul_zero, Nat.add_zero, Int.zero_mul, Int.add_zero] at h
  rw [Nat.mul_comm, h, Int.mul_comm]
theorem rngE {a b : Int} {u v : Nat} (ha : -2147483648 ≤ a ∧ a < 2147483648) (hb : -2147483648 ≤ b ∧ b < 2147483648) (hu : u < 12) (hv : v < 12) : -9223372036854775808 ≤ a * (u : Int) + b * (v : Int) ∧ a * (u : Int) + b * (v : Int) < 9223372036854775808 := by
  have h1 : ∀ (a : Int) (u : Nat), (-2147483648 ≤ a ∧ a < 2147483648) → u < 12 → -2147483648 * 12 ≤ a * (u : Int) ∧ a * (u : Int) ≤ 2147483648 * 12 := by
    intro a u ha hu
    have e : u = 0 ∨ u = 1 ∨ u = 2 ∨ u = 3 ∨ u = 4 ∨ u = 5 ∨ u = 6 ∨ u = 7 ∨ u = 8 ∨ u = 9 ∨ u = 10 ∨ u = 11 := by omega
    rcases e with rfl | rfl | rfl | rfl | rfl | rfl | rfl | rfl | rfl | rfl | rfl | rfl <;> omega
  have h2 := h1 a u ha hu
  have h3 := h1 b v hb hv
  omega
def unV (D : Nat) (c k : Int) (j : Nat) : Int64 := zL c * zL (rho D (fmN k D) j)
def hlV (hv : Nat → Nat → Int32) (h : Nat) : Nat → Int64 := fun i => zL (hv h i).toInt
def adV (way : Int) (a b : Nat → Int64) (j : Nat) : Int64 := if way = 0 then a j + b j else a j - b j
def rwV (D : Nat) (a b : Nat → Int64) (st i n j : Nat) : Int64 := slS (fun k => a i * b k * zL (rho D ((i + k * st) % D) j)) n
def mlV (D : Nat) (a b : Nat → Int64) (st n j : Nat) : Int64 := slS (fun i => rwV D a b st i (phN D) j) n
def rmV (D : Nat) (a b : Nat → Int64) (i n j : Nat) : Int64 := slS (fun k => a i * b k * zL (rho D (i + k) j)) n
def tmV (D : Nat) (a b : Nat → Int64) (n j : Nat) : Int64 := slS (fun i => rmV D a b i (phN D) j) n
def tnV (D : Nat) (a : Nat → Int64) (t : Int) (n j : Nat) : Int64 := slS (fun k => a k * zL (rho D (fmN ((k : Int) * t) D) j)) n
/-- times, in the one and in the other -/
theorem ml_tm {D : Nat} {a b : Nat → Int64} {j : Nat} (hD : 1 ≤ D ∧ D ≤ 12) (hj : j < phN D) : tmV D a b (phN D) j = mlV D a b 1 (phN D) j := by
  have hph := ph_rng D (by omega) hD.1
  refine slS_congr (fun i hi => slS_congr (fun k hk => ?_))
  show a i * b k * _ = a i * b k * _
  rw [Nat.mul_one, ← rho_3 D (by omega) hD.1 (i + k) (by omega) j hj]
theorem rho_lt {D e : Nat} (_h : e < D) : True := trivial
/-- a number times itself turned: the one way and the other -/
theorem sz_eq {D : Nat} {a : Nat → Int64} {T : Nat → Int64} {t : Int} {st j : Nat} (hD : 1 ≤ D ∧ D ≤ 12) (hj : j < phN D) (ht : ∀ k, k < phN D → fmN ((k : Int) * t) D = (k * st) % D) (hT : ∀ m, m < phN D → T m = tnV D a t (phN D) m) :
    tmV D a T (phN D) j = mlV D a a st (phN D) j := by
  have hph := ph_rng D (by omega) hD.1
  refine slS_congr (fun i hi => ?_)
  have e1 : rmV D a T i (phN D) j = slS (fun m => slS (fun k => a i * (a k * zL (rho D ((k * st) % D) m)) * zL (rho D (i + m) j)) (phN D)) (phN D) := by
    refine slS_congr (fun m hm => ?_)
    show a i * T m * _ = _
    rw [hT m hm]
    have e2 : tnV D a t (phN D) m = slS (fun k => a k * zL (rho D ((k * st) % D) m)) (phN D) := slS_congr (fun k hk => by
      show a k * _ = a k * _
      rw [ht k hk])
    rw [e2]
    have e3 : a i * slS (fun k => a k * zL (rho D ((k * st) % D) m)) (phN D) * zL (rho D (i + m) j) = (a i * zL (rho D (i + m) j)) * slS (fun k => a k * zL (rho D ((k * st) % D) m)) (phN D) := by grind
    rw [e3, ← slS_mul]
    refine slS_congr (fun k hk => ?_)
    grind
  rw [e1, slS_swap]
  refine slS_congr (fun k hk => ?_)
  show slS (fun m => a i * (a k * zL (rho D ((k * st) % D) m)) * zL (rho D (i + m) j)) (phN D) = a i * a k * zL (rho D ((i + k * st) % D) j)
  have e4 : slS (fun m => a i * (a k * zL (rho D ((k * st) % D) m)) * zL (rho D (i + m) j)) (phN D) = a i * a k * slS (fun m => zL (rho D ((k * st) % D) m * rho D (i + m) j)) (phN D) := by
    rw [← slS_mul]
    refine slS_congr (fun m hm => ?_)
    rw [← zL_mul]
    grind
  rw [e4, ← zL_siS, rho_4 D (by omega) hD.1 _ (Nat.mod_lt _ (by omega)) i hi j hj, Nat.add_mod_mod]
end
section
set_option maxHeartbeats 4000000 in
set_option maxRecDepth 100000 in
theorem c_X0_reduce (l : Launch) (dd : va_G) {ad : Nat → Nat} {cI cL cQ : ClassId} {tR : Nat}  {ix : Nat → Int32} {pw : Nat → Int32} {sg : Nat → Int32} {tm : Nat → Int32} {hd : Nat → Nat → Int32} {wk : Nat → Int64} {rc : Nat → Int64} {lc : Nat → Int64} {P : Nat} {D : Nat}  (hD1 : 1 ≤ D ∧ D ≤ 12) : CTv l yX0_reduce wsX0_reduce ({ frames := 0, cells := 0, slots := 0, locals := 0 } : Room) dd (tysA cI cL cQ) (rX tR) [.ref (ad 0)] (wC ad cI cL cQ (ix) (pw) (sg) (tm) (hd) (wk) (rc) (lc) (P) ((rootN P)) (D) ((phN D))) (fun (u : Nat → Int64) => ∀ j, j < phN D → u j = Lf D j wk D) (fun (u : Nat → Int64) => (wC ad cI cL cQ (ix) (pw) (sg) (tm) (hd) (u) (rc) (lc) (P) ((rootN P)) (D) ((phN D)))) := by
  refine CTv_of (cc := cX0_reduce) (maxL := 3) (by decide +kernel) rfl (Nat.le_of_ble_eq_true rfl) ?_
  intro p e s m args below meth c A Q ls H locs hx hb hts hown hml hP hK hD hS hA hX hl hret
  have hin : ∀ w ∈ wsX00, w ∈ wsX0_reduce := by decide +kernel
  have hl : lv_has ls 3 [(0, .ref (ad 0))] := hl
  have hph := ph_rng D (by omega) hD1.1
  refine lv_aload_n (pc := 0) hx hb dX0_reduce_0 rfl (lv_at hl 0 rfl) ?_
  refine va_get (pc := 1) (D := dd) (ci := 0) (v := .int (nI (D))) (C := RX0) (T := TX0) (N := 12) hx hb hts hin hown hK hP 0 rfl rfl 10 (by decide) (hts (.fieldLink RX0 74 "TurningSums" "d" "I") (by decide +kernel)) (fun _ h9 => h9) rfl dX0_reduce_1 ?_
  refine nv_iconst (pc := 4) (k := 1) hx hb dX0_reduce_4 rfl ?_
  refine nv_isub (pc := 5) hx hb (by omega) dX0_reduce_5 ?_
  refine lv_istore_n (pc := 6) (lv' := [(1, .int (nI ((D - 1)))), (0, .ref (ad 0))]) hx hb dX0_reduce_6 rfl hl (by decide) rfl (fun ls hl => ?_)
  have L7 : ∀ (n9_7 : Nat), ∀ (h : Nat) (wv : Nat → Int64), h < n9_7 → (phN D - 1 ≤ h ∧ h ≤ D - 1) → (∀ j, j < phN D → Lf D j wv (h + 1) = Lf D j wk D) → ∀ (H : Heap) (locs : List Loc) (ls : Array Slot), va_P dd vwCl (wC ad cI cL cQ (ix) (pw) (sg) (tm) (hd) (wv) (rc) (lc) (P) ((rootN P)) (D) ((phN D))) H → va_D A (wC ad cI cL cQ (ix) (pw) (sg) (tm) (hd) (wv) (rc) (lc) (P) ((rootN P)) (D) ((phN D))) → va_S A s.heap H locs → lv_has ls 3 [(0, .ref (ad 0)), (1, .int (nI (h)))] → W p l e ({ frames := 0, cells := 0, slots := 0, locals := 0 } : Room) s m args below meth c H locs 0 0 Q (F0 m 7 ls []) := by
    intro n9_7
    induction n9_7 with
    | zero => intro h wv hm; exact absurd hm (Nat.not_lt_zero _)
    | succ n9_7 ih_7 =>
      intro h wv hm_7 hh hL H locs ls hP hD hS hl
      refine lv_iload_n (pc := 7) hx hb dX0_reduce_7 rfl (lv_at hl 1 rfl) ?_
      refine lv_aload_n (pc := 8) hx hb dX0_reduce_8 rfl (lv_at hl 0 rfl) ?_
      refine va_get (pc := 9) (D := dd) (ci := 0) (v := .int (nI ((phN D)))) (C := RX0) (T := TX0) (N := 12) hx hb hts hin hown hK hP 0 rfl rfl 11 (by decide) (hts (.fieldLink RX0 55 "TurningSums" "phi" "I") (by decide +kernel)) (fun _ h9 => h9) rfl dX0_reduce_9 ?_
      refine nv_icmp_lt (pc := 12) (tgt := 83) hx hb (a := h) (b := (phN D)) (by omega) (by omega) dX0_reduce_12 (by decide) (fun h12 => ?_) (fun h12 => ?_)
      · skip
        exact hret _ _ _ _ (wv) (fun j z => by rw [← hL j z, show h + 1 = phN D by omega, Lf_at hD1 z]) hP hD hS dX0_reduce_83
      · skip
        refine nv_iconst (pc := 15) (k := 0) hx hb dX0_reduce_15 rfl ?_
        refine lv_istore_n (pc := 16) (lv' := [(2, .int (nI (0))), (0, .ref (ad 0)), (1, .int (nI (h)))]) hx hb dX0_reduce_16 rfl hl (by decide) rfl (fun ls hl => ?_)
        have L17 : ∀ (n9_17 : Nat), ∀ (i : Nat) (w2 : Nat → Int64), phN D + 1 - i < n9_17 → (i ≤ phN D) → (∀ m, w2 m = if h - phN D ≤ m ∧ m < h - phN D + i then wv m - wv h * zL (relC ((D - 1) * 10 + (m - (h - phN D)))) else wv m) → ∀ (H : Heap) (locs : List Loc) (ls : Array Slot), va_P dd vwCl (wC ad cI cL cQ (ix) (pw) (sg) (tm) (hd) (w2) (rc) (lc) (P) ((rootN P)) (D) ((phN D))) H → va_D A (wC ad cI cL cQ (ix) (pw) (sg) (tm) (hd) (w2) (rc) (lc) (P) ((rootN P)) (D) ((phN D))) → va_S A s.heap H locs → lv_has ls 3 [(0, .ref (ad 0)), (1, .int (nI (h))), (2, .int (nI (i)))] → W p l e ({ frames := 0, cells := 0, slots := 0, locals := 0 } : Room) s m args below meth c H locs 0 0 Q (F0 m 17 ls []) := by
          intro n9_17
          induction n9_17 with
          | zero => intro i w2 hm; exact absurd hm (Nat.not_lt_zero _)
          | succ n9_17 ih_17 =>
            intro i w2 hm_17 hi hw2 H locs ls hP hD hS hl
            refine lv_iload_n (pc := 17) hx hb dX0_reduce_17 rfl (lv_at hl 2 rfl) ?_
            refine lv_aload_n (pc := 18) hx hb dX0_reduce_18 rfl (lv_at hl 0 rfl) ?_
            refine va_get (pc := 19) (D := dd) (ci := 0) (v := .int (nI ((phN D)))) (C := RX0) (T := TX0) (N := 12) hx hb hts hin hown hK hP 0 rfl rfl 11 (by decide) (hts (.fieldLink RX0 55 "TurningSums" "phi" "I") (by decide +kernel)) (fun _ h9 => h9) rfl dX0_reduce_19 ?_
            refine nv_icmp_ge (pc := 22) (tgt := 70) hx hb (a := i) (b := (phN D)) (by omega) (by omega) dX0_reduce_22 (by decide) (fun h22 => ?_) (fun h22 => ?_)
            · skip
              refine lv_aload_n (pc := 70) hx hb dX0_reduce_70 rfl (lv_at hl 0 rfl) ?_
              refine va_get (pc := 71) (D := dd) (ci := 0) (v := .ref (ad 6)) (C := RX0) (T := TX0) (N := 12) hx hb hts hin hown hK hP 0 rfl rfl 5 (by decide) (hts (.fieldLink RX0 27 "TurningSums" "work" "[J") (by decide +kernel)) (fun _ h9 => h9) rfl dX0_reduce_71 ?_
              refine lv_iload_n (pc := 74) hx hb dX0_reduce_74 rfl (lv_at hl 1 rfl) ?_
              refine lv_lconst (pc := 75) (v := zL 0) hx hb dX0_reduce_75 (by decide) ?_
              refine nv_last (pc := 76) hx hb hK hP hD hS 6 1 rfl rfl (by omega) (by decide) (ws' := (wC ad cI cL cQ (ix) (pw) (sg) (tm) (hd) ((vp_updL (w2) (h) (zL 0))) (rc) (lc) (P) ((rootN P)) (D) ((phN D)))) rfl dX0_reduce_76 (fun H locs hP hD hS => ?_)
              refine lv_iinc (pc := 77) (v := nI ((h - 1))) (lv' := [(1, .int (nI ((h - 1)))), (0, .ref (ad 0)), (2, .int (nI (i)))]) hx hb dX0_reduce_77 hl (k := 1) rfl (nI_decp (by omega)) (by decide) rfl (fun ls hl => ?_)
              refine lv_goto (pc := 80) (tgt := 7) hx hb dX0_reduce_80 (by decide) ?_
              exact ih_7 ((h - 1)) ((vp_updL (w2) (h) (zL 0))) (by omega) (by omega) (fun j z => (rd_out hD1 z (by omega) (by omega) (by omega) (by rw [show i = phN D by omega] at hw2; exact hw2)).trans (hL j z)) _ _ _ hP hD hS (lv_sub hl [1, 0] rfl)
            · skip
              refine lv_aload_n (pc := 25) hx hb dX0_reduce_25 rfl (lv_at hl 0 rfl) ?_
              refine va_get (pc := 26) (D := dd) (ci := 0) (v := .ref (ad 6)) (C := RX0) (T := TX0) (N := 12) hx hb hts hin hown hK hP 0 rfl rfl 5 (by decide) (hts (.fieldLink RX0 27 "TurningSums" "work" "[J") (by decide +kernel)) (fun _ h9 => h9) rfl dX0_reduce_26 ?_
              refine lv_iload_n (pc := 29) hx hb dX0_reduce_29 rfl (lv_at hl 1 rfl) ?_
              refine lv_aload_n (pc := 30) hx hb dX0_reduce_30 rfl (lv_at hl 0 rfl) ?_
              refine va_get (pc := 31) (D := dd) (ci := 0) (v := .int (nI ((phN D)))) (C := RX0) (T := TX0) (N := 12) hx hb hts hin hown hK hP 0 rfl rfl 11 (by decide) (hts (.fieldLink RX0 55 "TurningSums" "phi" "I") (by decide +kernel)) (fun _ h9 => h9) rfl dX0_reduce_31 ?_
              refine nv_isub (pc := 34) hx hb (by omega) dX0_reduce_34 ?_
              refine lv_iload_n (pc := 35) hx hb dX0_reduce_35 rfl (lv_at hl 2 rfl) ?_
              refine nv_iadd (pc := 36) hx hb dX0_reduce_36 ?_
              refine lv_dup2_11 (pc := 37) hx hb dX0_reduce_37 rfl rfl ?_
              refine nv_lald (pc := 38) hx hb hK hP 6 1 rfl rfl (i := ((h - (phN D)) + i)) (by omega) (by decide) (v := (w2) (((h - (phN D)) + i))) (rfl) dX0_reduce_38 ?_
              refine lv_aload_n (pc := 39) hx hb dX0_reduce_39 rfl (lv_at hl 0 rfl) ?_
              refine va_get (pc := 40) (D := dd) (ci := 0) (v := .ref (ad 6)) (C := RX0) (T := TX0) (N := 12) hx hb hts hin hown hK hP 0 rfl rfl 5 (by decide) (hts (.fieldLink RX0 27 "TurningSums" "work" "[J") (by decide +kernel)) (fun _ h9 => h9) rfl dX0_reduce_40 ?_
              refine lv_iload_n (pc := 43) hx hb dX0_reduce_43 rfl (lv_at hl 1 rfl) ?_
              refine nv_lald (pc := 44) hx hb hK hP 6 1 rfl rfl (i := h) (by omega) (by decide) (v := (wv h)) (rd_top (rl := fun q => relC ((D - 1) * 10 + q)) (by omega) (by omega) hw2) dX0_reduce_44 ?_
              refine va_gets (pc := 45) hx hb hX.1 hS hown (hts (.fieldLink RX0 155 "TurningSums" "RELATIONS" "[I") (by decide +kernel)) (fun _ h9 => h9) dX0_reduce_45 ?_
              refine lv_aload_n (pc := 48) hx hb dX0_reduce_48 rfl (lv_at hl 0 rfl) ?_
              refine va_get (pc := 49) (D := dd) (ci := 0) (v := .int (nI (D))) (C := RX0) (T := TX0) (N := 12) hx hb hts hin hown hK hP 0 rfl rfl 10 (by decide) (hts (.fieldLink RX0 74 "TurningSums" "d" "I") (by decide +kernel)) (fun _ h9 => h9) rfl dX0_reduce_49 ?_
              refine nv_iconst (pc := 52) (k := 1) hx hb dX0_reduce_52 rfl ?_
              refine nv_isub (pc := 53) hx hb (by omega) dX0_reduce_53 ?_
              refine nv_bipush (pc := 54) (k := 10) hx hb dX0_reduce_54 rfl (by decide) ?_
              refine nv_imul (pc := 56) hx hb dX0_reduce_56 ?_
              refine lv_iload_n (pc := 57) hx hb dX0_reduce_57 rfl (lv_at hl 2 rfl) ?_
              refine nv_iadd (pc := 58) hx hb dX0_reduce_58 ?_
              refine nv_rel (pc := 59) hx hb hX.2 hS (i := (((D - 1) * 10) + i)) (by omega) dX0_reduce_59 ?_
              refine lv_i2l (pc := 60) (v := zL (relC ((((D - 1) * 10) + i)))) hx hb dX0_reduce_60 (zL_zI (by have := relC_rng ((D - 1) * 10 + i); omega) (by have := relC_rng ((D - 1) * 10 + i); omega)) ?_
              refine lv_lmul (pc := 61) hx hb dX0_reduce_61 ?_
              refine lv_lsub (pc := 62) hx hb dX0_reduce_62 ?_
              refine nv_last (pc := 63) hx hb hK hP hD hS 6 1 rfl rfl (by omega) (by decide) (ws' := (wC ad cI cL cQ (ix) (pw) (sg) (tm) (hd) ((vp_updL (w2) (((h - (phN D)) + i)) (((w2) (((h - (phN D)) + i)) - ((wv h) * zL (relC ((((D - 1) * 10) + i)))))))) (rc) (lc) (P) ((rootN P)) (D) ((phN D)))) rfl dX0_reduce_63 (fun H locs hP hD hS => ?_)
              refine lv_iinc (pc := 64) (v := nI ((i + 1))) (lv' := [(2, .int (nI ((i + 1)))), (0, .ref (ad 0)), (1, .int (nI (h)))]) hx hb dX0_reduce_64 hl (k := 2) rfl (nI_inc _) (by decide) rfl (fun ls hl => ?_)
              refine lv_goto (pc := 67) (tgt := 17) hx hb dX0_reduce_67 (by decide) ?_
              exact ih_17 ((i + 1)) ((vp_updL (w2) (((h - (phN D)) + i)) (((w2) (((h - (phN D)) + i)) - ((wv h) * zL (relC ((((D - 1) * 10) + i)))))))) (by omega) (by omega) (rd_s (rl := fun q => relC ((D - 1) * 10 + q)) (by omega) (by omega) hw2) _ _ _ hP hD hS (lv_sub hl [1, 2, 0] rfl)
        exact L17 _ (0) (wv) (Nat.lt_succ_self _) (by omega) (fun m => by rw [if_neg (by omega)]) _ _ _ hP hD hS (lv_sub hl [1, 2, 0] rfl)
  exact L7 _ (D - 1) (wk) (Nat.lt_succ_self _) (by omega) (fun j z => by rw [show D - 1 + 1 = D by omega]) _ _ _ hP hD hS (lv_sub hl [1, 0] rfl)
set_option maxHeartbeats 4000000 in
set_option maxRecDepth 100000 in
theorem c_X1_reduce (l : Launch) (dd : va_G) {ad : Nat → Nat} {cI cL cQ : ClassId}  {P : Nat} {D : Nat} {ix : Nat → Int32} {ho : Nat → Int64} {re : Nat → Int32} {wk : Nat → Int64} {tu : Nat → Int64} {wa : Nat → Int64} {nx : Nat → Int64}  (hD1 : 1 ≤ D ∧ D ≤ 12) (hre : ∀ i, i < 13 → re i = zI (relM D i)) : CTv l yX1_reduce wsX1_reduce ({ frames := 0, cells := 0, slots := 0, locals := 0 } : Room) dd (tysA cI cL cQ) (am_no) [.ref (ad 0)] (wM ad cI cL (P) ((rootN P)) (D) ((phN D)) (ix) (ho) (re) (wk) (tu) (wa) (nx)) (fun (u : Nat → Int64) => ∀ j, j < phN D → u j = Lf D j wk 24) (fun (u : Nat → Int64) => (wM ad cI cL (P) ((rootN P)) (D) ((phN D)) (ix) (ho) (re) (u) (tu) (wa) (nx))) := by
  refine CTv_of (cc := cX1_reduce) (maxL := 5) (by decide +kernel) rfl (Nat.le_of_ble_eq_true rfl) ?_
  intro p e s m args below meth c A Q ls H locs hx hb hts hown hml hP hK hD hS hA hX hl hret
  have hin : ∀ w ∈ wsX10, w ∈ wsX1_reduce := by decide +kernel
  have hl : lv_has ls 5 [(0, .ref (ad 0))] := hl
  have hph := ph_rng D (by omega) hD1.1
  refine nv_bipush (pc := 0) (k := 23) hx hb dX1_reduce_0 rfl (by decide) ?_
  refine lv_istore_n (pc := 2) (lv' := [(1, .int (nI (23))), (0, .ref (ad 0))]) hx hb dX1_reduce_2 rfl hl (by decide) rfl (fun ls hl => ?_)
  have L3 : ∀ (n9_3 : Nat), ∀ (h : Nat) (wv : Nat → Int64), h < n9_3 → (phN D - 1 ≤ h ∧ h ≤ 23) → (∀ j, j < phN D → Lf D j wv (h + 1) = Lf D j wk 24) → ∀ (H : Heap) (locs : List Loc) (ls : Array Slot), va_P dd vwCl (wM ad cI cL (P) ((rootN P)) (D) ((phN D)) (ix) (ho) (re) (wv) (tu) (wa) (nx)) H → va_D A (wM ad cI cL (P) ((rootN P)) (D) ((phN D)) (ix) (ho) (re) (wv) (tu) (wa) (nx)) → va_S A s.heap H locs → lv_has ls 5 [(0, .ref (ad 0)), (1, .int (nI (h)))] → W p l e ({ frames := 0, cells := 0, slots := 0, locals := 0 } : Room) s m args below meth c H locs 0 0 Q (F0 m 3 ls []) := by
    intro n9_3
    induction n9_3 with
    | zero => intro h wv hm; exact absurd hm (Nat.not_lt_zero _)
    | succ n9_3 ih_3 =>
      intro h wv hm_3 hh hL H locs ls hP hD hS hl
      refine lv_iload_n (pc := 3) hx hb dX1_reduce_3 rfl (lv_at hl 1 rfl) ?_
      refine lv_aload_n (pc := 4) hx hb dX1_reduce_4 rfl (lv_at hl 0 rfl) ?_
      refine va_get (pc := 5) (D := dd) (ci := 1) (v := .int (nI ((phN D)))) (C := RX1) (T := TX1) (N := 11) hx hb hts hin hown hK hP 0 rfl rfl 3 (by decide) (hts (.fieldLink RX1 55 "TurningSumsModel" "phi" "I") (by decide +kernel)) (fun _ h9 => h9) rfl dX1_reduce_5 ?_
      refine nv_icmp_lt (pc := 8) (tgt := 75) hx hb (a := h) (b := (phN D)) (by omega) (by omega) dX1_reduce_8 (by decide) (fun h8 => ?_) (fun h8 => ?_)
      · skip
        exact hret _ _ _ _ (wv) (fun j z => by rw [← hL j z, show h + 1 = phN D by omega, Lf_at hD1 z]) hP hD hS dX1_reduce_75
      · skip
        refine lv_aload_n (pc := 11) hx hb dX1_reduce_11 rfl (lv_at hl 0 rfl) ?_
        refine va_get (pc := 12) (D := dd) (ci := 1) (v := .ref (ad 4)) (C := RX1) (T := TX1) (N := 11) hx hb hts hin hown hK hP 0 rfl rfl 7 (by decide) (hts (.fieldLink RX1 20 "TurningSumsModel" "work" "[J") (by decide +kernel)) (fun _ h9 => h9) rfl dX1_reduce_12 ?_
        refine lv_iload_n (pc := 15) hx hb dX1_reduce_15 rfl (lv_at hl 1 rfl) ?_
        refine nv_lald (pc := 16) hx hb hK hP 4 1 rfl rfl (i := h) (by omega) (by decide) (v := (wv) (h)) (rfl) dX1_reduce_16 ?_
        refine lv_lstore_n (pc := 17) (lv' := [(2, .long ((wv) (h))), (0, .ref (ad 0)), (1, .int (nI (h)))]) hx hb dX1_reduce_17 rfl hl (by decide) rfl (fun ls hl => ?_)
        refine nv_iconst (pc := 18) (k := 0) hx hb dX1_reduce_18 rfl ?_
        refine lv_istore (pc := 19) (lv' := [(4, .int (nI (0))), (2, .long ((wv) (h))), (0, .ref (ad 0)), (1, .int (nI (h)))]) hx hb dX1_reduce_19 hl (by decide) rfl (fun ls hl => ?_)
        have L21 : ∀ (n9_21 : Nat), ∀ (i : Nat) (w2 : Nat → Int64), phN D + 2 - i < n9_21 → (i ≤ phN D + 1) → (∀ m, w2 m = if h - phN D ≤ m ∧ m < h - phN D + i then wv m - wv h * zL (relM D (m - (h - phN D))) else wv m) → ∀ (H : Heap) (locs : List Loc) (ls : Array Slot), va_P dd vwCl (wM ad cI cL (P) ((rootN P)) (D) ((phN D)) (ix) (ho) (re) (w2) (tu) (wa) (nx)) H → va_D A (wM ad cI cL (P) ((rootN P)) (D) ((phN D)) (ix) (ho) (re) (w2) (tu) (wa) (nx)) → va_S A s.heap H locs → lv_has ls 5 [(0, .ref (ad 0)), (1, .int (nI (h))), (2, .long ((wv) (h))), (4, .int (nI (i)))] → W p l e ({ frames := 0, cells := 0, slots := 0, locals := 0 } : Room) s m args below meth c H locs 0 0 Q (F0 m 21 ls []) := by
          intro n9_21
          induction n9_21 with
          | zero => intro i w2 hm; exact absurd hm (Nat.not_lt_zero _)
          | succ n9_21 ih_21 =>
            intro i w2 hm_21 hi hw2 H locs ls hP hD hS hl
            refine lv_iload (pc := 21) hx hb dX1_reduce_21 (lv_at hl 3 rfl) ?_
            refine lv_aload_n (pc := 23) hx hb dX1_reduce_23 rfl (lv_at hl 0 rfl) ?_
            refine va_get (pc := 24) (D := dd) (ci := 1) (v := .int (nI ((phN D)))) (C := RX1) (T := TX1) (N := 11) hx hb hts hin hown hK hP 0 rfl rfl 3 (by decide) (hts (.fieldLink RX1 55 "TurningSumsModel" "phi" "I") (by decide +kernel)) (fun _ h9 => h9) rfl dX1_reduce_24 ?_
            refine nv_icmp_gt (pc := 27) (tgt := 69) hx hb (a := i) (b := (phN D)) (by omega) (by omega) dX1_reduce_27 (by decide) (fun h27 => ?_) (fun h27 => ?_)
            · skip
              refine lv_iinc (pc := 69) (v := nI ((h - 1))) (lv' := [(1, .int (nI ((h - 1)))), (0, .ref (ad 0)), (2, .long ((wv) (h))), (4, .int (nI (i)))]) hx hb dX1_reduce_69 hl (k := 1) rfl (nI_decp (by omega)) (by decide) rfl (fun ls hl => ?_)
              refine lv_goto (pc := 72) (tgt := 3) hx hb dX1_reduce_72 (by decide) ?_
              exact ih_3 ((h - 1)) (w2) (by omega) (by omega) (fun j z => (rd_outM hD1 z (by omega) (by omega) (by omega) (Or.inl (by omega)) hw2).trans (hL j z)) _ _ _ hP hD hS (lv_sub hl [1, 0] rfl)
            · skip
              refine lv_lload_n (pc := 30) hx hb dX1_reduce_30 rfl (lv_at hl 2 rfl) ?_
              refine lv_lconst (pc := 31) (v := zL 0) hx hb dX1_reduce_31 (by decide) ?_
              refine W.lcmp (pc := 32) hx hb dX1_reduce_32 ?_
              refine cv_if_eq (pc := 33) (tgt := 69) hx hb dX1_reduce_33 (by decide) (fun h33 => ?_) (fun h33 => ?_)
              · skip
                refine lv_iinc (pc := 69) (v := nI ((h - 1))) (lv' := [(1, .int (nI ((h - 1)))), (0, .ref (ad 0)), (2, .long ((wv) (h))), (4, .int (nI (i)))]) hx hb dX1_reduce_69 hl (k := 1) rfl (nI_decp (by omega)) (by decide) rfl (fun ls hl => ?_)
                refine lv_goto (pc := 72) (tgt := 3) hx hb dX1_reduce_72 (by decide) ?_
                exact ih_3 ((h - 1)) (w2) (by omega) (by omega) (fun j z => (rd_outM hD1 z (by omega) (by omega) (by omega) (Or.inr h33) hw2).trans (hL j z)) _ _ _ hP hD hS (lv_sub hl [1, 0] rfl)
              · skip
                refine lv_aload_n (pc := 36) hx hb dX1_reduce_36 rfl (lv_at hl 0 rfl) ?_
                refine va_get (pc := 37) (D := dd) (ci := 1) (v := .ref (ad 4)) (C := RX1) (T := TX1) (N := 11) hx hb hts hin hown hK hP 0 rfl rfl 7 (by decide) (hts (.fieldLink RX1 20 "TurningSumsModel" "work" "[J") (by decide +kernel)) (fun _ h9 => h9) rfl dX1_reduce_37 ?_
                refine lv_iload_n (pc := 40) hx hb dX1_reduce_40 rfl (lv_at hl 1 rfl) ?_
                refine lv_aload_n (pc := 41) hx hb dX1_reduce_41 rfl (lv_at hl 0 rfl) ?_
                refine va_get (pc := 42) (D := dd) (ci := 1) (v := .int (nI ((phN D)))) (C := RX1) (T := TX1) (N := 11) hx hb hts hin hown hK hP 0 rfl rfl 3 (by decide) (hts (.fieldLink RX1 55 "TurningSumsModel" "phi" "I") (by decide +kernel)) (fun _ h9 => h9) rfl dX1_reduce_42 ?_
                refine nv_isub (pc := 45) hx hb (by omega) dX1_reduce_45 ?_
                refine lv_iload (pc := 46) hx hb dX1_reduce_46 (lv_at hl 3 rfl) ?_
                refine nv_iadd (pc := 48) hx hb dX1_reduce_48 ?_
                refine lv_dup2_11 (pc := 49) hx hb dX1_reduce_49 rfl rfl ?_
                refine nv_lald (pc := 50) hx hb hK hP 4 1 rfl rfl (i := ((h - (phN D)) + i)) (by omega) (by decide) (v := (w2) (((h - (phN D)) + i))) (rfl) dX1_reduce_50 ?_
                refine lv_lload_n (pc := 51) hx hb dX1_reduce_51 rfl (lv_at hl 2 rfl) ?_
                refine lv_aload_n (pc := 52) hx hb dX1_reduce_52 rfl (lv_at hl 0 rfl) ?_
                refine va_get (pc := 53) (D := dd) (ci := 1) (v := .ref (ad 3)) (C := RX1) (T := TX1) (N := 11) hx hb hts hin hown hK hP 0 rfl rfl 6 (by decide) (hts (.fieldLink RX1 17 "TurningSumsModel" "relation" "[I") (by decide +kernel)) (fun _ h9 => h9) rfl dX1_reduce_53 ?_
                refine lv_iload (pc := 56) hx hb dX1_reduce_56 (lv_at hl 3 rfl) ?_
                refine nv_iald (pc := 58) hx hb hK hP 3 0 rfl rfl (i := i) (by omega) (by decide) (v := zI (relM D (i))) (hre _ (by omega)) dX1_reduce_58 ?_
                refine lv_i2l (pc := 59) (v := zL (relM D (i))) hx hb dX1_reduce_59 (zL_zI (by have := relM_rng D i; omega) (by have := relM_rng D i; omega)) ?_
                refine lv_lmul (pc := 60) hx hb dX1_reduce_60 ?_
                refine lv_lsub (pc := 61) hx hb dX1_reduce_61 ?_
                refine nv_last (pc := 62) hx hb hK hP hD hS 4 1 rfl rfl (by omega) (by decide) (ws' := (wM ad cI cL (P) ((rootN P)) (D) ((phN D)) (ix) (ho) (re) ((vp_updL (w2) (((h - (phN D)) + i)) (((w2) (((h - (phN D)) + i)) - ((wv) (h) * zL (relM D (i))))))) (tu) (wa) (nx))) rfl dX1_reduce_62 (fun H locs hP hD hS => ?_)
                refine lv_iinc (pc := 63) (v := nI ((i + 1))) (lv' := [(4, .int (nI ((i + 1)))), (0, .ref (ad 0)), (1, .int (nI (h))), (2, .long ((wv) (h)))]) hx hb dX1_reduce_63 hl (k := 3) rfl (nI_inc _) (by decide) rfl (fun ls hl => ?_)
                refine lv_goto (pc := 66) (tgt := 21) hx hb dX1_reduce_66 (by decide) ?_
                exact ih_21 ((i + 1)) ((vp_updL (w2) (((h - (phN D)) + i)) (((w2) (((h - (phN D)) + i)) - ((wv) (h) * zL (relM D (i))))))) (by omega) (by omega) (rd_s (rl := relM D) (by omega) (by omega) hw2) _ _ _ hP hD hS (lv_sub hl [1, 2, 3, 0] rfl)
        exact L21 _ (0) (wv) (Nat.lt_succ_self _) (by omega) (fun m => by rw [if_neg (by omega)]) _ _ _ hP hD hS (lv_sub hl [2, 3, 1, 0] rfl)
  exact L3 _ (23) (wk) (Nat.lt_succ_self _) (by omega) (fun j z => rfl) _ _ _ hP hD hS (lv_sub hl [1, 0] rfl)
set_option maxHeartbeats 4000000 in
set_option maxRecDepth 100000 in
theorem c_X0_store (l : Launch) (dd : va_G) {ad : Nat → Nat} {cI cL cQ : ClassId} {tR : Nat} (vv : Nat → Int64) {hv : Nat → Nat → Int32} {ix : Nat → Int32} {pw : Nat → Int32} {sg : Nat → Int32} {tm : Nat → Int32} {hd : Nat → Nat → Int32} {wk : Nat → Int64} {rc : Nat → Int64} {lc : Nat → Int64} {P : Nat} {D : Nat} {h : Nat} (hD1 : 1 ≤ D ∧ D ≤ 12) (hh6 : h < 6) (hvv : ∀ j, j < phN D → Lf D j wk D = vv j) (hH : okH D hv hd) : CTi l yX0_store wsX0_store ({ frames := 1, cells := 0, slots := 0, locals := 22 } : Room) dd (tysA cI cL cQ) (rX tR) [.ref (ad 0), .int (nI (h))] (wC ad cI cL cQ (ix) (pw) (sg) (tm) (hd) (wk) (rc) (lc) (P) ((rootN P)) (D) ((phN D))) (fun (r : Int32) (u : (Nat → Int64) × (Nat → Nat → Int32)) => (inR D vv ∧ r = nI 1 ∧ okH D (stR hv h vv) u.2) ∨ (¬ inR D vv ∧ r = zI (-5) ∧ u.2 = hd)) (fun (u : (Nat → Int64) × (Nat → Nat → Int32)) => (wC ad cI cL cQ (ix) (pw) (sg) (tm) (u.2) (u.1) (rc) (lc) (P) ((rootN P)) (D) ((phN D)))) := by
  refine CTi_of (cc := cX0_store) (maxL := 3) (by decide +kernel) rfl (Nat.le_of_ble_eq_true rfl) ?_
  intro p e s m args below meth c A Q ls H locs hx hb hts hown hml hP hK hD hS hA hX hl hret
  have hin : ∀ w ∈ wsX00, w ∈ wsX0_store := by decide +kernel
  have hl : lv_has ls 3 [(0, .ref (ad 0)), (1, .int (nI (h)))] := hl
  have hph := ph_rng D (by omega) hD1.1
  refine lv_aload_n (pc := 0) hx hb dX0_store_0 rfl (lv_at hl 0 rfl) ?_
  refine CTv_Vw (pc := 1) (rX_ok tR) (As := []) (rest := []) ⟨hx, hb, hml, hown, hts⟩ (c_X0_reduce l dd hD1) (cwV 0 hts gX0_store_X0_reduce rfl rfl rfl (by decide +kernel) ⟨Nat.le_of_ble_eq_true rfl, Nat.le_of_ble_eq_true rfl⟩) hK hP hD hS hA hX hK 0 0 rfl rfl rfl rfl hl.1 rfl (Nat.le_of_ble_eq_true rfl) ⟨Nat.zero_le _, Nat.zero_le _⟩ dX0_store_1 (fun u H locs hw hP hD hS => ?_)
  try dsimp only at hw
  obtain ⟨wk1, e9⟩ : ∃ z, z = u := ⟨_, rfl⟩
  rw [← e9] at hw hP hD
  have hw1 := hw
  have hP : va_P dd vwCl (wC ad cI cL cQ (ix) (pw) (sg) (tm) (hd) (wk1) (rc) (lc) (P) ((rootN P)) (D) ((phN D))) H := hP
  have hD : va_D A (wC ad cI cL cQ (ix) (pw) (sg) (tm) (hd) (wk1) (rc) (lc) (P) ((rootN P)) (D) ((phN D))) := hD
  refine nv_iconst (pc := 4) (k := 0) hx hb dX0_store_4 rfl ?_
  refine lv_istore_n (pc := 5) (lv' := [(2, .int (nI (0))), (0, .ref (ad 0)), (1, .int (nI (h)))]) hx hb dX0_store_5 rfl hl (by decide) rfl (fun ls hl => ?_)
  have hvw : ∀ j, j < phN D → wk1 j = vv j := fun j z => (hw1 j z).trans (hvv j z)
  have L6 : ∀ (n9_6 : Nat), ∀ (i : Nat), phN D + 1 - i < n9_6 → (i ≤ phN D) → (∀ q, q < i → -100000000 ≤ (vv q).toInt ∧ (vv q).toInt ≤ 100000000) → ∀ (H : Heap) (locs : List Loc) (ls : Array Slot), va_P dd vwCl (wC ad cI cL cQ (ix) (pw) (sg) (tm) (hd) (wk1) (rc) (lc) (P) ((rootN P)) (D) ((phN D))) H → va_D A (wC ad cI cL cQ (ix) (pw) (sg) (tm) (hd) (wk1) (rc) (lc) (P) ((rootN P)) (D) ((phN D))) → va_S A s.heap H locs → lv_has ls 3 [(0, .ref (ad 0)), (1, .int (nI (h))), (2, .int (nI (i)))] → W p l e ({ frames := 1, cells := 0, slots := 0, locals := 22 } : Room) s m args below meth c H locs 0 0 Q (F0 m 6 ls []) := by
    intro n9_6
    induction n9_6 with
    | zero => intro i hm; exact absurd hm (Nat.not_lt_zero _)
    | succ n9_6 ih_6 =>
      intro i hm_6 hi hr9 H locs ls hP hD hS hl
      refine lv_iload_n (pc := 6) hx hb dX0_store_6 rfl (lv_at hl 2 rfl) ?_
      refine lv_aload_n (pc := 7) hx hb dX0_store_7 rfl (lv_at hl 0 rfl) ?_
      refine va_get (pc := 8) (D := dd) (ci := 0) (v := .int (nI ((phN D)))) (C := RX0) (T := TX0) (N := 12) hx hb hts hin hown hK hP 0 rfl rfl 11 (by decide) (hts (.fieldLink RX0 55 "TurningSums" "phi" "I") (by decide +kernel)) (fun _ h9 => h9) rfl dX0_store_8 ?_
      refine nv_icmp_ge (pc := 11) (tgt := 49) hx hb (a := i) (b := (phN D)) (by omega) (by omega) dX0_store_11 (by decide) (fun h11 => ?_) (fun h11 => ?_)
      · skip
        have hrr : inR D vv := fun q z => hr9 q (by omega)
        refine nv_iconst (pc := 49) (k := 0) hx hb dX0_store_49 rfl ?_
        refine lv_istore_n (pc := 50) (lv' := [(2, .int (nI (0))), (0, .ref (ad 0)), (1, .int (nI (h)))]) hx hb dX0_store_50 rfl hl (by decide) rfl (fun ls hl => ?_)
        have L51 : ∀ (n9_51 : Nat), ∀ (k : Nat) (hdv : Nat → Nat → Int32), phN D + 1 - k < n9_51 → (k ≤ phN D) → (∀ a, a < 6 → ∀ b, b < phN D → hdv a b = if a = h ∧ b < k then (vv b).toInt32 else hv a b) → ∀ (H : Heap) (locs : List Loc) (ls : Array Slot), va_P dd vwCl (wC ad cI cL cQ (ix) (pw) (sg) (tm) (hdv) (wk1) (rc) (lc) (P) ((rootN P)) (D) ((phN D))) H → va_D A (wC ad cI cL cQ (ix) (pw) (sg) (tm) (hdv) (wk1) (rc) (lc) (P) ((rootN P)) (D) ((phN D))) → va_S A s.heap H locs → lv_has ls 3 [(0, .ref (ad 0)), (1, .int (nI (h))), (2, .int (nI (k)))] → W p l e ({ frames := 1, cells := 0, slots := 0, locals := 22 } : Room) s m args below meth c H locs 0 0 Q (F0 m 51 ls []) := by
          intro n9_51
          induction n9_51 with
          | zero => intro k hdv hm; exact absurd hm (Nat.not_lt_zero _)
          | succ n9_51 ih_51 =>
            intro k hdv hm_51 hk hz H locs ls hP hD hS hl
            refine lv_iload_n (pc := 51) hx hb dX0_store_51 rfl (lv_at hl 2 rfl) ?_
            refine lv_aload_n (pc := 52) hx hb dX0_store_52 rfl (lv_at hl 0 rfl) ?_
            refine va_get (pc := 53) (D := dd) (ci := 0) (v := .int (nI ((phN D)))) (C := RX0) (T := TX0) (N := 12) hx hb hts hin hown hK hP 0 rfl rfl 11 (by decide) (hts (.fieldLink RX0 55 "TurningSums" "phi" "I") (by decide +kernel)) (fun _ h9 => h9) rfl dX0_store_53 ?_
            refine nv_icmp_ge (pc := 56) (tgt := 80) hx hb (a := k) (b := (phN D)) (by omega) (by omega) dX0_store_56 (by decide) (fun h56 => ?_) (fun h56 => ?_)
            · skip
              refine nv_iconst (pc := 80) (k := 1) hx hb dX0_store_80 rfl ?_
              exact hret _ _ _ _ _ (wk1, hdv) (Or.inl ⟨hrr, rfl, fun a z b z2 => by show hdv a b = _; rw [hz a z b z2, stR_at, show k = phN D by omega]; by_cases q : a = h; rw [if_pos ⟨q, z2⟩, if_pos q]; rw [if_neg (fun w => q w.1), if_neg q]⟩) hP hD hS dX0_store_81
            · skip
              refine lv_aload_n (pc := 59) hx hb dX0_store_59 rfl (lv_at hl 0 rfl) ?_
              refine va_get (pc := 60) (D := dd) (ci := 0) (v := .ref (ad 5)) (C := RX0) (T := TX0) (N := 12) hx hb hts hin hown hK hP 0 rfl rfl 4 (by decide) (hts (.fieldLink RX0 24 "TurningSums" "holds" "[[I") (by decide +kernel)) (fun _ h9 => h9) rfl dX0_store_60 ?_
              refine lv_iload_n (pc := 63) hx hb dX0_store_63 rfl (lv_at hl 1 rfl) ?_
              refine nv_aald (pc := 64) hx hb hK hP 5 2 rfl rfl (i := h) (by omega) (by decide) (if_pos (by omega)) dX0_store_64 ?_
              refine lv_iload_n (pc := 65) hx hb dX0_store_65 rfl (lv_at hl 2 rfl) ?_
              refine lv_aload_n (pc := 66) hx hb dX0_store_66 rfl (lv_at hl 0 rfl) ?_
              refine va_get (pc := 67) (D := dd) (ci := 0) (v := .ref (ad 6)) (C := RX0) (T := TX0) (N := 12) hx hb hts hin hown hK hP 0 rfl rfl 5 (by decide) (hts (.fieldLink RX0 27 "TurningSums" "work" "[J") (by decide +kernel)) (fun _ h9 => h9) rfl dX0_store_67 ?_
              refine lv_iload_n (pc := 70) hx hb dX0_store_70 rfl (lv_at hl 2 rfl) ?_
              refine nv_lald (pc := 71) hx hb hK hP 6 1 rfl rfl (i := k) (by omega) (by decide) (v := (vv k)) (hvw _ (by omega)) dX0_store_71 ?_
              refine lv_l2i (pc := 72) (v := ((vv k)).toInt32) hx hb dX0_store_72 rfl ?_
              refine nv_iast (pc := 73) hx hb hK hP hD hS (9 + (h)) 0 (hd_get (by omega)) rfl (by omega) (by decide) (ws' := (wC ad cI cL cQ (ix) (pw) (sg) (tm) ((va_up (hdv) (h) (upd ((hdv) (h)) (k) ((((vv k)).toInt32))))) (wk1) (rc) (lc) (P) ((rootN P)) (D) ((phN D)))) (hd_set (by omega)) dX0_store_73 (fun H locs hP hD hS => ?_)
              refine lv_iinc (pc := 74) (v := nI ((k + 1))) (lv' := [(2, .int (nI ((k + 1)))), (0, .ref (ad 0)), (1, .int (nI (h)))]) hx hb dX0_store_74 hl (k := 2) rfl (nI_inc _) (by decide) rfl (fun ls hl => ?_)
              refine lv_goto (pc := 77) (tgt := 51) hx hb dX0_store_77 (by decide) ?_
              exact ih_51 ((k + 1)) ((va_up (hdv) (h) (upd ((hdv) (h)) (k) ((((vv k)).toInt32))))) (by omega) (by omega) (wr_C hz) _ _ _ hP hD hS (lv_sub hl [1, 2, 0] rfl)
        exact L51 _ (0) (hd) (Nat.lt_succ_self _) (by omega) (fun a z b z2 => by rw [if_neg (by omega)]; exact hH a z b z2) _ _ _ hP hD hS (lv_sub hl [1, 2, 0] rfl)
      · skip
        refine lv_aload_n (pc := 14) hx hb dX0_store_14 rfl (lv_at hl 0 rfl) ?_
        refine va_get (pc := 15) (D := dd) (ci := 0) (v := .ref (ad 6)) (C := RX0) (T := TX0) (N := 12) hx hb hts hin hown hK hP 0 rfl rfl 5 (by decide) (hts (.fieldLink RX0 27 "TurningSums" "work" "[J") (by decide +kernel)) (fun _ h9 => h9) rfl dX0_store_15 ?_
        refine lv_iload_n (pc := 18) hx hb dX0_store_18 rfl (lv_at hl 2 rfl) ?_
        refine nv_lald (pc := 19) hx hb hK hP 6 1 rfl rfl (i := i) (by omega) (by decide) (v := (vv i)) (hvw _ (by omega)) dX0_store_19 ?_
        refine tq_ldc2 (pc := 20) (k := (-100000000)) hx hb hown (hts (.constantLong RX0 158 (-100000000)) (by decide +kernel)) dX0_store_20 ?_
        refine W.lcmp (pc := 23) hx hb dX0_store_23 ?_
        refine cv_if_lt (pc := 24) (tgt := 40) hx hb dX0_store_24 (by decide) (fun h24 => ?_) (fun h24 => ?_)
        · skip
          rw [lt_zL (by omega)] at h24
          refine lv_bipush (pc := 40) (v := zI (-5)) hx hb dX0_store_40 (by decide) ?_
          exact hret _ _ _ _ _ (wk1, hd) (Or.inr ⟨fun z => by have := z i (by omega); omega, rfl, rfl⟩) hP hD hS dX0_store_42
        · skip
          rw [lt_zL (by omega)] at h24
          refine lv_aload_n (pc := 27) hx hb dX0_store_27 rfl (lv_at hl 0 rfl) ?_
          refine va_get (pc := 28) (D := dd) (ci := 0) (v := .ref (ad 6)) (C := RX0) (T := TX0) (N := 12) hx hb hts hin hown hK hP 0 rfl rfl 5 (by decide) (hts (.fieldLink RX0 27 "TurningSums" "work" "[J") (by decide +kernel)) (fun _ h9 => h9) rfl dX0_store_28 ?_
          refine lv_iload_n (pc := 31) hx hb dX0_store_31 rfl (lv_at hl 2 rfl) ?_
          refine nv_lald (pc := 32) hx hb hK hP 6 1 rfl rfl (i := i) (by omega) (by decide) (v := (vv i)) (hvw _ (by omega)) dX0_store_32 ?_
          refine tq_ldc2 (pc := 33) (k := (100000000)) hx hb hown (hts (.constantLong RX0 160 (100000000)) (by decide +kernel)) dX0_store_33 ?_
          refine W.lcmp (pc := 36) hx hb dX0_store_36 ?_
          refine cv_if_le (pc := 37) (tgt := 43) hx hb dX0_store_37 (by decide) (fun h37 => ?_) (fun h37 => ?_)
          · skip
            rw [le_zL (by omega)] at h37
            refine lv_iinc (pc := 43) (v := nI ((i + 1))) (lv' := [(2, .int (nI ((i + 1)))), (0, .ref (ad 0)), (1, .int (nI (h)))]) hx hb dX0_store_43 hl (k := 2) rfl (nI_inc _) (by decide) rfl (fun ls hl => ?_)
            refine lv_goto (pc := 46) (tgt := 6) hx hb dX0_store_46 (by decide) ?_
            exact ih_6 ((i + 1)) (by omega) (by omega) (fun q z => (Nat.lt_or_ge q i).elim (fun w => hr9 q w) (fun w => by have e : q = i := (by omega); subst e; omega)) _ _ _ hP hD hS (lv_sub hl [1, 2, 0] rfl)
          · skip
            rw [le_zL (by omega)] at h37
            refine lv_bipush (pc := 40) (v := zI (-5)) hx hb dX0_store_40 (by decide) ?_
            exact hret _ _ _ _ _ (wk1, hd) (Or.inr ⟨fun z => by have := z i (by omega); omega, rfl, rfl⟩) hP hD hS dX0_store_42
  exact L6 _ (0) (Nat.lt_succ_self _) (by omega) (fun q z => by omega) _ _ _ hP hD hS (lv_sub hl [1, 2, 0] rfl)
set_option maxHeartbeats 4000000 in
set_option maxRecDepth 100000 in
theorem c_X1_lay (l : Launch) (dd : va_G) {ad : Nat → Nat} {cI cL cQ : ClassId} (vv : Nat → Int64) {hv : Nat → Nat → Int32} {P : Nat} {D : Nat} {ix : Nat → Int32} {ho : Nat → Int64} {re : Nat → Int32} {wk : Nat → Int64} {tu : Nat → Int64} {wa : Nat → Int64} {nx : Nat → Int64} {h : Nat} (hD1 : 1 ≤ D ∧ D ≤ 12) (hh6 : h < 6) (hvv : ∀ j, j < phN D → wk j = vv j) (hL : okL D hv ho) : CTi l yX1_lay wsX1_lay ({ frames := 1, cells := 0, slots := 0, locals := 25 } : Room) dd (tysA cI cL cQ) (am_no) [.ref (ad 0), .int (nI (h))] (wM ad cI cL (P) ((rootN P)) (D) ((phN D)) (ix) (ho) (re) (wk) (tu) (wa) (nx)) (fun (r : Int32) (u : Nat → Int64) => (inR D vv ∧ r = nI 1 ∧ okL D (stR hv h vv) u) ∨ (¬ inR D vv ∧ r = zI (-5) ∧ u = ho)) (fun (u : Nat → Int64) => (wM ad cI cL (P) ((rootN P)) (D) ((phN D)) (ix) (u) (re) (wk) (tu) (wa) (nx))) := by
  refine CTi_of (cc := cX1_lay) (maxL := 3) (by decide +kernel) rfl (Nat.le_of_ble_eq_true rfl) ?_
  intro p e s m args below meth c A Q ls H locs hx hb hts hown hml hP hK hD hS hA hX hl hret
  have hin : ∀ w ∈ wsX10, w ∈ wsX1_lay := by decide +kernel
  have hl : lv_has ls 3 [(0, .ref (ad 0)), (1, .int (nI (h)))] := hl
  have hph := ph_rng D (by omega) hD1.1
  refine nv_iconst (pc := 0) (k := 0) hx hb dX1_lay_0 rfl ?_
  refine lv_istore_n (pc := 1) (lv' := [(2, .int (nI (0))), (0, .ref (ad 0)), (1, .int (nI (h)))]) hx hb dX1_lay_1 rfl hl (by decide) rfl (fun ls hl => ?_)
  have L2 : ∀ (n9_2 : Nat), ∀ (i : Nat), phN D + 1 - i < n9_2 → (i ≤ phN D) → (∀ q, q < i → -100000000 ≤ (vv q).toInt ∧ (vv q).toInt ≤ 100000000) → ∀ (H : Heap) (locs : List Loc) (ls : Array Slot), va_P dd vwCl (wM ad cI cL (P) ((rootN P)) (D) ((phN D)) (ix) (ho) (re) (wk) (tu) (wa) (nx)) H → va_D A (wM ad cI cL (P) ((rootN P)) (D) ((phN D)) (ix) (ho) (re) (wk) (tu) (wa) (nx)) → va_S A s.heap H locs → lv_has ls 3 [(0, .ref (ad 0)), (1, .int (nI (h))), (2, .int (nI (i)))] → W p l e ({ frames := 1, cells := 0, slots := 0, locals := 25 } : Room) s m args below meth c H locs 0 0 Q (F0 m 2 ls []) := by
    intro n9_2
    induction n9_2 with
    | zero => intro i hm; exact absurd hm (Nat.not_lt_zero _)
    | succ n9_2 ih_2 =>
      intro i hm_2 hi hr9 H locs ls hP hD hS hl
      refine lv_iload_n (pc := 2) hx hb dX1_lay_2 rfl (lv_at hl 2 rfl) ?_
      refine lv_aload_n (pc := 3) hx hb dX1_lay_3 rfl (lv_at hl 0 rfl) ?_
      refine va_get (pc := 4) (D := dd) (ci := 1) (v := .int (nI ((phN D)))) (C := RX1) (T := TX1) (N := 11) hx hb hts hin hown hK hP 0 rfl rfl 3 (by decide) (hts (.fieldLink RX1 55 "TurningSumsModel" "phi" "I") (by decide +kernel)) (fun _ h9 => h9) rfl dX1_lay_4 ?_
      refine nv_icmp_ge (pc := 7) (tgt := 37) hx hb (a := i) (b := (phN D)) (by omega) (by omega) dX1_lay_7 (by decide) (fun h7 => ?_) (fun h7 => ?_)
      · skip
        have hrr : inR D vv := fun q z => hr9 q (by omega)
        refine nv_iconst (pc := 37) (k := 0) hx hb dX1_lay_37 rfl ?_
        refine lv_istore_n (pc := 38) (lv' := [(2, .int (nI (0))), (0, .ref (ad 0)), (1, .int (nI (h)))]) hx hb dX1_lay_38 rfl hl (by decide) rfl (fun ls hl => ?_)
        have L39 : ∀ (n9_39 : Nat), ∀ (k : Nat) (hov : Nat → Int64), 13 - k < n9_39 → (k ≤ 12) → (∀ a, a < 6 → ∀ b, b < 12 → hov (12 * a + b) = if a = h ∧ b < k then (if b < phN D then vv b else zL 0) else (if b < phN D then zL (hv a b).toInt else zL 0)) → ∀ (H : Heap) (locs : List Loc) (ls : Array Slot), va_P dd vwCl (wM ad cI cL (P) ((rootN P)) (D) ((phN D)) (ix) (hov) (re) (wk) (tu) (wa) (nx)) H → va_D A (wM ad cI cL (P) ((rootN P)) (D) ((phN D)) (ix) (hov) (re) (wk) (tu) (wa) (nx)) → va_S A s.heap H locs → lv_has ls 3 [(0, .ref (ad 0)), (1, .int (nI (h))), (2, .int (nI (k)))] → W p l e ({ frames := 1, cells := 0, slots := 0, locals := 25 } : Room) s m args below meth c H locs 0 0 Q (F0 m 39 ls []) := by
          intro n9_39
          induction n9_39 with
          | zero => intro k hov hm; exact absurd hm (Nat.not_lt_zero _)
          | succ n9_39 ih_39 =>
            intro k hov hm_39 hk hz H locs ls hP hD hS hl
            refine lv_iload_n (pc := 39) hx hb dX1_lay_39 rfl (lv_at hl 2 rfl) ?_
            refine nv_bipush (pc := 40) (k := 12) hx hb dX1_lay_40 rfl (by decide) ?_
            refine nv_icmp_ge (pc := 42) (tgt := 80) hx hb (a := k) (b := 12) (by omega) (by omega) dX1_lay_42 (by decide) (fun h42 => ?_) (fun h42 => ?_)
            · skip
              refine nv_iconst (pc := 80) (k := 1) hx hb dX1_lay_80 rfl ?_
              exact hret _ _ _ _ _ (hov) (Or.inl ⟨hrr, rfl, okL_st hrr (by rw [show k = 12 by omega] at hz; exact hz)⟩) hP hD hS dX1_lay_81
            · skip
              refine lv_aload_n (pc := 45) hx hb dX1_lay_45 rfl (lv_at hl 0 rfl) ?_
              refine va_get (pc := 46) (D := dd) (ci := 1) (v := .ref (ad 2)) (C := RX1) (T := TX1) (N := 11) hx hb hts hin hown hK hP 0 rfl rfl 5 (by decide) (hts (.fieldLink RX1 13 "TurningSumsModel" "hold" "[J") (by decide +kernel)) (fun _ h9 => h9) rfl dX1_lay_46 ?_
              refine nv_bipush (pc := 49) (k := 12) hx hb dX1_lay_49 rfl (by decide) ?_
              refine lv_iload_n (pc := 51) hx hb dX1_lay_51 rfl (lv_at hl 1 rfl) ?_
              refine nv_imul (pc := 52) hx hb dX1_lay_52 ?_
              refine lv_iload_n (pc := 53) hx hb dX1_lay_53 rfl (lv_at hl 2 rfl) ?_
              refine nv_iadd (pc := 54) hx hb dX1_lay_54 ?_
              refine lv_iload_n (pc := 55) hx hb dX1_lay_55 rfl (lv_at hl 2 rfl) ?_
              refine lv_aload_n (pc := 56) hx hb dX1_lay_56 rfl (lv_at hl 0 rfl) ?_
              refine va_get (pc := 57) (D := dd) (ci := 1) (v := .int (nI ((phN D)))) (C := RX1) (T := TX1) (N := 11) hx hb hts hin hown hK hP 0 rfl rfl 3 (by decide) (hts (.fieldLink RX1 55 "TurningSumsModel" "phi" "I") (by decide +kernel)) (fun _ h9 => h9) rfl dX1_lay_57 ?_
              refine nv_icmp_ge (pc := 60) (tgt := 72) hx hb (a := k) (b := (phN D)) (by omega) (by omega) dX1_lay_60 (by decide) (fun h60 => ?_) (fun h60 => ?_)
              · skip
                refine lv_lconst (pc := 72) (v := zL 0) hx hb dX1_lay_72 (by decide) ?_
                refine nv_last (pc := 73) hx hb hK hP hD hS 2 1 rfl rfl (by omega) (by decide) (ws' := (wM ad cI cL (P) ((rootN P)) (D) ((phN D)) (ix) ((vp_updL (hov) (((12 * h) + k)) (zL 0))) (re) (wk) (tu) (wa) (nx))) rfl dX1_lay_73 (fun H locs hP hD hS => ?_)
                refine lv_iinc (pc := 74) (v := nI ((k + 1))) (lv' := [(2, .int (nI ((k + 1)))), (0, .ref (ad 0)), (1, .int (nI (h)))]) hx hb dX1_lay_74 hl (k := 2) rfl (nI_inc _) (by decide) rfl (fun ls hl => ?_)
                refine lv_goto (pc := 77) (tgt := 39) hx hb dX1_lay_77 (by decide) ?_
                exact ih_39 ((k + 1)) ((vp_updL (hov) (((12 * h) + k)) (zL 0))) (by omega) (by omega) (wr_M (x := fun b => if b < phN D then vv b else zL 0) (if_neg (by omega)).symm (by omega) hz) _ _ _ hP hD hS (lv_sub hl [1, 2, 0] rfl)
              · skip
                refine lv_aload_n (pc := 63) hx hb dX1_lay_63 rfl (lv_at hl 0 rfl) ?_
                refine va_get (pc := 64) (D := dd) (ci := 1) (v := .ref (ad 4)) (C := RX1) (T := TX1) (N := 11) hx hb hts hin hown hK hP 0 rfl rfl 7 (by decide) (hts (.fieldLink RX1 20 "TurningSumsModel" "work" "[J") (by decide +kernel)) (fun _ h9 => h9) rfl dX1_lay_64 ?_
                refine lv_iload_n (pc := 67) hx hb dX1_lay_67 rfl (lv_at hl 2 rfl) ?_
                refine nv_lald (pc := 68) hx hb hK hP 4 1 rfl rfl (i := k) (by omega) (by decide) (v := (vv k)) (hvv _ (by omega)) dX1_lay_68 ?_
                refine lv_goto (pc := 69) (tgt := 73) hx hb dX1_lay_69 (by decide) ?_
                refine nv_last (pc := 73) hx hb hK hP hD hS 2 1 rfl rfl (by omega) (by decide) (ws' := (wM ad cI cL (P) ((rootN P)) (D) ((phN D)) (ix) ((vp_updL (hov) (((12 * h) + k)) ((vv k)))) (re) (wk) (tu) (wa) (nx))) rfl dX1_lay_73 (fun H locs hP hD hS => ?_)
                refine lv_iinc (pc := 74) (v := nI ((k + 1))) (lv' := [(2, .int (nI ((k + 1)))), (0, .ref (ad 0)), (1, .int (nI (h)))]) hx hb dX1_lay_74 hl (k := 2) rfl (nI_inc _) (by decide) rfl (fun ls hl => ?_)
                refine lv_goto (pc := 77) (tgt := 39) hx hb dX1_lay_77 (by decide) ?_
                exact ih_39 ((k + 1)) ((vp_updL (hov) (((12 * h) + k)) ((vv k)))) (by omega) (by omega) (wr_M (x := fun b => if b < phN D then vv b else zL 0) (if_pos (by omega)).symm (by omega) hz) _ _ _ hP hD hS (lv_sub hl [1, 2, 0] rfl)
        exact L39 _ (0) (ho) (Nat.lt_succ_self _) (by omega) (fun a z b z2 => by rw [if_neg (by omega)]; exact hL a z b z2) _ _ _ hP hD hS (lv_sub hl [1, 2, 0] rfl)
      · skip
        refine lv_aload_n (pc := 10) hx hb dX1_lay_10 rfl (lv_at hl 0 rfl) ?_
        refine va_get (pc := 11) (D := dd) (ci := 1) (v := .ref (ad 4)) (C := RX1) (T := TX1) (N := 11) hx hb hts hin hown hK hP 0 rfl rfl 7 (by decide) (hts (.fieldLink RX1 20 "TurningSumsModel" "work" "[J") (by decide +kernel)) (fun _ h9 => h9) rfl dX1_lay_11 ?_
        refine lv_iload_n (pc := 14) hx hb dX1_lay_14 rfl (lv_at hl 2 rfl) ?_
        refine nv_lald (pc := 15) hx hb hK hP 4 1 rfl rfl (i := i) (by omega) (by decide) (v := (vv i)) (hvv _ (by omega)) dX1_lay_15 ?_
        refine tq_ldc2 (pc := 16) (k := (-100000000)) hx hb hown (hts (.constantLong RX1 76 (-100000000)) (by decide +kernel)) dX1_lay_16 ?_
        refine tq_ldc2 (pc := 19) (k := (100000000)) hx hb hown (hts (.constantLong RX1 78 (100000000)) (by decide +kernel)) dX1_lay_19 ?_
        refine CTi_S0 (pc := 22) am_no_ok (As := [.long ((vv i)), .long (zL (-100000000)), .long (zL (100000000))]) (rest := []) ⟨hx, hb, hml, hown, hts⟩ (c_X1_in l dd ) (va_cwS 3 hts gX1_lay_X1_in rfl rfl rfl (by decide +kernel) ⟨Nat.le_of_ble_eq_true rfl, Nat.le_of_ble_eq_true rfl⟩) hK hP hD hS hA hX rfl hl.1 rfl (Nat.le_of_ble_eq_true rfl) ⟨Nat.zero_le _, Nat.zero_le _⟩ dX1_lay_22 (fun r u H locs hw hP hD hS => ?_)
        try dsimp only at hw
        subst hw
        refine bv_if_ne (pc := 25) (tgt := 31) hx hb dX1_lay_25 (by decide) (fun h25 => ?_) (fun h25 => ?_)
        · skip
          rw [zL_le' (by omega), le_zL (by omega)] at h25
          refine lv_iinc (pc := 31) (v := nI ((i + 1))) (lv' := [(2, .int (nI ((i + 1)))), (0, .ref (ad 0)), (1, .int (nI (h)))]) hx hb dX1_lay_31 hl (k := 2) rfl (nI_inc _) (by decide) rfl (fun ls hl => ?_)
          refine lv_goto (pc := 34) (tgt := 2) hx hb dX1_lay_34 (by decide) ?_
          exact ih_2 ((i + 1)) (by omega) (by omega) (fun q z => (Nat.lt_or_ge q i).elim (fun w => hr9 q w) (fun w => by have e : q = i := (by omega); subst e; omega)) _ _ _ hP hD hS (lv_sub hl [1, 2, 0] rfl)
        · skip
          rw [zL_le' (by omega), le_zL (by omega)] at h25
          refine lv_bipush (pc := 28) (v := zI (-5)) hx hb dX1_lay_28 (by decide) ?_
          exact hret _ _ _ _ _ (ho) (Or.inr ⟨fun z => by have := z i (by omega); omega, rfl, rfl⟩) hP hD hS dX1_lay_30
  exact L2 _ (0) (Nat.lt_succ_self _) (by omega) (fun q z => by omega) _ _ _ hP hD hS (lv_sub hl [1, 2, 0] rfl)
end
section
/-! PURE 5: small rows for the numbers' walks -/
theorem ad_s {w2 : Nat → Int64} {v : Nat → Int64} {i : Nat} {y : Int64} (hy : y = v i) (h : ∀ m, m < 12 → w2 m = if m < i then v m else zL 0) : ∀ m, m < 12 → vp_updL w2 i y m = if m < i + 1 then v m else zL 0 := by
  intro m hm
  unfold vp_updL
  by_cases q : m = i
  · rw [if_pos q, if_pos (by omega), hy, q]
  · rw [if_neg q, h m hm]
    by_cases q2 : m < i
    · rw [if_pos q2, if_pos (by omega)]
    · rw [if_neg q2, if_neg (by omega)]
theorem ad_v {way sg : Int} {hv : Nat → Nat → Int32} {h1 h2 i : Nat} (hsg : (way = 0 ∧ sg = 1) ∨ (way ≠ 0 ∧ sg = -1)) : (hv h1 i).toInt64 + zL sg * (hv h2 i).toInt64 = adV way (hlV hv h1) (hlV hv h2) i := by
  unfold adV hlV
  rw [zL_i, zL_i]
  rcases hsg with ⟨a, b⟩ | ⟨a, b⟩
  · rw [if_pos a, b, zL_1, Int64.one_mul]
  · rw [if_neg a, b, show zL (-1) = -1 by decide]
    grind
theorem sum_e {P D : Nat} {a b : Int} {x : Nat} (hD : 0 < D) : (fmN a D * clsN P D x + fmN b D * clsN P D (P + 1 - x)) % D = sumE P D a b x := fm_lin hD
theorem ad_m {w2 : Nat → Int64} {v : Nat → Int64} {i : Nat} {y : Int64} (hy : y = v i) (h : ∀ m, m < i → w2 m = v m) : ∀ m, m < i + 1 → vp_updL w2 i y m = v m := by
  intro m hm
  unfold vp_updL
  by_cases q : m = i
  · rw [if_pos q, hy, q]
  · rw [if_neg q]
    exact h m (by omega)
theorem rngT {t : Int} {i : Nat} (ht : -2147483648 ≤ t ∧ t < 2147483648) (hi : i < 12) : -9223372036854775808 ≤ (i : Int) * t ∧ (i : Int) * t < 9223372036854775808 := by
  have h := rngE ht ht hi (show 0 < 12 by decide)
  have e : (i : Int) * t = t * (i : Int) := Int.mul_comm _ _
  rw [show ((0 : Nat) : Int) = 0 from rfl, Int.mul_zero, Int.add_zero] at h
  rw [e]
  exact h
theorem sz_t {D k : Nat} : fmN ((k : Int) * ((D - 1 : Nat) : Int)) D = (k * (D - 1)) % D := by
  rw [← Int.natCast_mul, fmN_nat]
theorem sz_t1 {D k : Nat} {t : Int} (h : D = 1) : fmN ((k : Int) * t) D = (k * (D - 1)) % D := by
  subst h
  have := fmN_lt ((k : Int) * t) (show 0 < 1 by decide)
  omega
theorem okL_row {D : Nat} {hv : Nat → Nat → Int32} {ho : Nat → Int64} (hD : 1 ≤ D ∧ D ≤ 12) (hL : okL D hv ho) {h : Nat} (hh : h < 6) : ∀ i, i < phN D → ho (12 * h + i) = hlV hv h i := by
  intro i hi
  have hph := ph_rng D (by omega) hD.1
  rw [hL h hh i (by omega), if_pos hi]
  rfl
end
section
set_option maxHeartbeats 4000000 in
set_option maxRecDepth 100000 in
theorem c_X0_add (l : Launch) (dd : va_G) {ad : Nat → Nat} {cI cL cQ : ClassId} {tR : Nat} {way : Int} {hv : Nat → Nat → Int32} {ix : Nat → Int32} {pw : Nat → Int32} {sg : Nat → Int32} {tm : Nat → Int32} {hd : Nat → Nat → Int32} {wk : Nat → Int64} {rc : Nat → Int64} {lc : Nat → Int64} {P : Nat} {D : Nat} {h1 : Nat} {h2 : Nat} {sg9 : Int} (hD1 : 1 ≤ D ∧ D ≤ 12) (hh1 : h1 < 6) (hh2 : h2 < 6) (hsg : (way = 0 ∧ sg9 = 1) ∨ (way ≠ 0 ∧ sg9 = -1)) (hH : okH D hv hd) : CTv l yX0_add wsX0_add ({ frames := 1, cells := 0, slots := 0, locals := 24 } : Room) dd (tysA cI cL cQ) (rX tR) [.ref (ad 0), .ref (ad (9 + h1)), .ref (ad (9 + h2)), .int (zI (sg9))] (wC ad cI cL cQ (ix) (pw) (sg) (tm) (hd) (wk) (rc) (lc) (P) ((rootN P)) (D) ((phN D))) (fun (u : Nat → Int64) => ∀ j, j < phN D → Lf D j u D = adV way (hlV hv h1) (hlV hv h2) j) (fun (u : Nat → Int64) => (wC ad cI cL cQ (ix) (pw) (sg) (tm) (hd) (u) (rc) (lc) (P) ((rootN P)) (D) ((phN D)))) := by
  refine CTv_of (cc := cX0_add) (maxL := 5) (by decide +kernel) rfl (Nat.le_of_ble_eq_true rfl) ?_
  intro p e s m args below meth c A Q ls H locs hx hb hts hown hml hP hK hD hS hA hX hl hret
  have hin : ∀ w ∈ wsX00, w ∈ wsX0_add := by decide +kernel
  have hl : lv_has ls 5 [(0, .ref (ad 0)), (1, .ref (ad (9 + h1))), (2, .ref (ad (9 + h2))), (3, .int (zI (sg9)))] := hl
  have hph := ph_rng D (by omega) hD1.1
  refine lv_aload_n (pc := 0) hx hb dX0_add_0 rfl (lv_at hl 0 rfl) ?_
  refine va_get (pc := 1) (D := dd) (ci := 0) (v := .ref (ad 6)) (C := RX0) (T := TX0) (N := 12) hx hb hts hin hown hK hP 0 rfl rfl 5 (by decide) (hts (.fieldLink RX0 27 "TurningSums" "work" "[J") (by decide +kernel)) (fun _ h9 => h9) rfl dX0_add_1 ?_
  refine lv_lconst (pc := 4) (v := zL 0) hx hb dX0_add_4 (by decide) ?_
  refine CTv_Sp (pc := 5) am_no_ok (As := [.ref (ad 6), .long (zL 0)]) (rest := []) ⟨hx, hb, hml, hown, hts⟩ (c_J7_fill_d0a16 l dd (by decide)) (va_cwS 2 hts gX0_add_J7_fill_d0a16 rfl rfl rfl (by decide +kernel) ⟨Nat.le_of_ble_eq_true rfl, Nat.le_of_ble_eq_true rfl⟩) hK hP hD hS hA trivial [6] [0, 1, 2, 3, 4, 5, 7, 8, 9, 10, 11, 12, 13, 14] rfl rfl rfl rfl (by decide) rfl hl.1 rfl (Nat.le_of_ble_eq_true rfl) ⟨Nat.zero_le _, Nat.zero_le _⟩ dX0_add_5 (fun u H locs hw hP hD hS => ?_)
  try dsimp only at hw
  subst hw
  have hP : va_P dd vwCl (wC ad cI cL cQ (ix) (pw) (sg) (tm) (hd) ((fun k => if k < 12 then zL 0 else (wk) k)) (rc) (lc) (P) ((rootN P)) (D) ((phN D))) H := hP.sub [0, 1, 2, 3, 4, 5, 14, 6, 7, 8, 9, 10, 11, 12, 13] rfl
  have hD : va_D A (wC ad cI cL cQ (ix) (pw) (sg) (tm) (hd) ((fun k => if k < 12 then zL 0 else (wk) k)) (rc) (lc) (P) ((rootN P)) (D) ((phN D))) := hD.sub [0, 1, 2, 3, 4, 5, 14, 6, 7, 8, 9, 10, 11, 12, 13] (by decide) rfl
  refine nv_iconst (pc := 8) (k := 0) hx hb dX0_add_8 rfl ?_
  refine lv_istore (pc := 9) (lv' := [(4, .int (nI (0))), (0, .ref (ad 0)), (1, .ref (ad (9 + h1))), (2, .ref (ad (9 + h2))), (3, .int (zI (sg9)))]) hx hb dX0_add_9 hl (by decide) rfl (fun ls hl => ?_)
  have L11 : ∀ (n9_11 : Nat), ∀ (i : Nat) (w2 : Nat → Int64), phN D + 1 - i < n9_11 → (i ≤ phN D) → (∀ m, m < 12 → w2 m = if m < i then adV way (hlV hv h1) (hlV hv h2) m else zL 0) → ∀ (H : Heap) (locs : List Loc) (ls : Array Slot), va_P dd vwCl (wC ad cI cL cQ (ix) (pw) (sg) (tm) (hd) (w2) (rc) (lc) (P) ((rootN P)) (D) ((phN D))) H → va_D A (wC ad cI cL cQ (ix) (pw) (sg) (tm) (hd) (w2) (rc) (lc) (P) ((rootN P)) (D) ((phN D))) → va_S A s.heap H locs → lv_has ls 5 [(0, .ref (ad 0)), (1, .ref (ad (9 + h1))), (2, .ref (ad (9 + h2))), (3, .int (zI (sg9))), (4, .int (nI (i)))] → W p l e ({ frames := 1, cells := 0, slots := 0, locals := 24 } : Room) s m args below meth c H locs 0 0 Q (F0 m 11 ls []) := by
    intro n9_11
    induction n9_11 with
    | zero => intro i w2 hm; exact absurd hm (Nat.not_lt_zero _)
    | succ n9_11 ih_11 =>
      intro i w2 hm_11 hi hw2 H locs ls hP hD hS hl
      refine lv_iload (pc := 11) hx hb dX0_add_11 (lv_at hl 4 rfl) ?_
      refine lv_aload_n (pc := 13) hx hb dX0_add_13 rfl (lv_at hl 0 rfl) ?_
      refine va_get (pc := 14) (D := dd) (ci := 0) (v := .int (nI ((phN D)))) (C := RX0) (T := TX0) (N := 12) hx hb hts hin hown hK hP 0 rfl rfl 11 (by decide) (hts (.fieldLink RX0 55 "TurningSums" "phi" "I") (by decide +kernel)) (fun _ h9 => h9) rfl dX0_add_14 ?_
      refine nv_icmp_ge (pc := 17) (tgt := 47) hx hb (a := i) (b := (phN D)) (by omega) (by omega) dX0_add_17 (by decide) (fun h17 => ?_) (fun h17 => ?_)
      · skip
        exact hret _ _ _ _ (w2) (fun j z => by rw [Lf_low hD1 z D (by omega) (fun m a b => by rw [hw2 m (by omega), if_neg (by omega)]), hw2 j (by omega), if_pos (by omega)]) hP hD hS dX0_add_47
      · skip
        refine lv_aload_n (pc := 20) hx hb dX0_add_20 rfl (lv_at hl 0 rfl) ?_
        refine va_get (pc := 21) (D := dd) (ci := 0) (v := .ref (ad 6)) (C := RX0) (T := TX0) (N := 12) hx hb hts hin hown hK hP 0 rfl rfl 5 (by decide) (hts (.fieldLink RX0 27 "TurningSums" "work" "[J") (by decide +kernel)) (fun _ h9 => h9) rfl dX0_add_21 ?_
        refine lv_iload (pc := 24) hx hb dX0_add_24 (lv_at hl 4 rfl) ?_
        refine lv_aload_n (pc := 26) hx hb dX0_add_26 rfl (lv_at hl 1 rfl) ?_
        refine lv_iload (pc := 27) hx hb dX0_add_27 (lv_at hl 4 rfl) ?_
        refine nv_iald (pc := 29) hx hb hK hP (9 + (h1)) 0 (hd_get (by omega)) rfl (i := i) (by omega) (by decide) (v := ((hv h1 i))) (hH _ hh1 _ (by omega)) dX0_add_29 ?_
        refine lv_i2l (pc := 30) (v := (((hv h1 i))).toInt64) hx hb dX0_add_30 (rfl) ?_
        refine lv_iload_n (pc := 31) hx hb dX0_add_31 rfl (lv_at hl 3 rfl) ?_
        refine lv_i2l (pc := 32) (v := zL (sg9)) hx hb dX0_add_32 (zL_zI (by omega) (by omega)) ?_
        refine lv_aload_n (pc := 33) hx hb dX0_add_33 rfl (lv_at hl 2 rfl) ?_
        refine lv_iload (pc := 34) hx hb dX0_add_34 (lv_at hl 4 rfl) ?_
        refine nv_iald (pc := 36) hx hb hK hP (9 + (h2)) 0 (hd_get (by omega)) rfl (i := i) (by omega) (by decide) (v := ((hv h2 i))) (hH _ hh2 _ (by omega)) dX0_add_36 ?_
        refine lv_i2l (pc := 37) (v := (((hv h2 i))).toInt64) hx hb dX0_add_37 (rfl) ?_
        refine lv_lmul (pc := 38) hx hb dX0_add_38 ?_
        refine lv_ladd (pc := 39) hx hb dX0_add_39 ?_
        refine nv_last (pc := 40) hx hb hK hP hD hS 6 1 rfl rfl (by omega) (by decide) (ws' := (wC ad cI cL cQ (ix) (pw) (sg) (tm) (hd) ((vp_updL (w2) (i) (((((hv h1 i))).toInt64 + (zL (sg9) * (((hv h2 i))).toInt64))))) (rc) (lc) (P) ((rootN P)) (D) ((phN D)))) rfl dX0_add_40 (fun H locs hP hD hS => ?_)
        refine lv_iinc (pc := 41) (v := nI ((i + 1))) (lv' := [(4, .int (nI ((i + 1)))), (0, .ref (ad 0)), (1, .ref (ad (9 + h1))), (2, .ref (ad (9 + h2))), (3, .int (zI (sg9)))]) hx hb dX0_add_41 hl (k := 4) rfl (nI_inc _) (by decide) rfl (fun ls hl => ?_)
        refine lv_goto (pc := 44) (tgt := 11) hx hb dX0_add_44 (by decide) ?_
        exact ih_11 ((i + 1)) ((vp_updL (w2) (i) (((((hv h1 i))).toInt64 + (zL (sg9) * (((hv h2 i))).toInt64))))) (by omega) (by omega) (ad_s (ad_v hsg) hw2) _ _ _ hP hD hS (lv_sub hl [1, 2, 3, 4, 0] rfl)
  exact L11 _ (0) ((fun k => if k < 12 then zL 0 else (wk) k)) (Nat.lt_succ_self _) (by omega) (fun m z => by show (if m < 12 then zL 0 else wk m) = _; rw [if_pos z]; exact (if_neg (by omega)).symm) _ _ _ hP hD hS (lv_sub hl [1, 2, 3, 4, 0] rfl)
set_option maxHeartbeats 4000000 in
set_option maxRecDepth 100000 in
theorem c_X0_multiply (l : Launch) (dd : va_G) {ad : Nat → Nat} {cI cL cQ : ClassId} {tR : Nat} {hv : Nat → Nat → Int32} {ix : Nat → Int32} {pw : Nat → Int32} {sg : Nat → Int32} {tm : Nat → Int32} {hd : Nat → Nat → Int32} {wk : Nat → Int64} {rc : Nat → Int64} {lc : Nat → Int64} {P : Nat} {D : Nat} {h1 : Nat} {h2 : Nat} {st : Nat} (hD1 : 1 ≤ D ∧ D ≤ 12) (hh1 : h1 < 6) (hh2 : h2 < 6) (hst : st ≤ 12) (hH : okH D hv hd) : CTv l yX0_multiply wsX0_multiply ({ frames := 1, cells := 0, slots := 0, locals := 24 } : Room) dd (tysA cI cL cQ) (rX tR) [.ref (ad 0), .ref (ad (9 + h1)), .ref (ad (9 + h2)), .int (nI (st))] (wC ad cI cL cQ (ix) (pw) (sg) (tm) (hd) (wk) (rc) (lc) (P) ((rootN P)) (D) ((phN D))) (fun (u : Nat → Int64) => ∀ j, j < phN D → Lf D j u D = mlV D (hlV hv h1) (hlV hv h2) st (phN D) j) (fun (u : Nat → Int64) => (wC ad cI cL cQ (ix) (pw) (sg) (tm) (hd) (u) (rc) (lc) (P) ((rootN P)) (D) ((phN D)))) := by
  refine CTv_of (cc := cX0_multiply) (maxL := 6) (by decide +kernel) rfl (Nat.le_of_ble_eq_true rfl) ?_
  intro p e s m args below meth c A Q ls H locs hx hb hts hown hml hP hK hD hS hA hX hl hret
  have hin : ∀ w ∈ wsX00, w ∈ wsX0_multiply := by decide +kernel
  have hl : lv_has ls 6 [(0, .ref (ad 0)), (1, .ref (ad (9 + h1))), (2, .ref (ad (9 + h2))), (3, .int (nI (st)))] := hl
  have hph := ph_rng D (by omega) hD1.1
  refine lv_aload_n (pc := 0) hx hb dX0_multiply_0 rfl (lv_at hl 0 rfl) ?_
  refine va_get (pc := 1) (D := dd) (ci := 0) (v := .ref (ad 6)) (C := RX0) (T := TX0) (N := 12) hx hb hts hin hown hK hP 0 rfl rfl 5 (by decide) (hts (.fieldLink RX0 27 "TurningSums" "work" "[J") (by decide +kernel)) (fun _ h9 => h9) rfl dX0_multiply_1 ?_
  refine lv_lconst (pc := 4) (v := zL 0) hx hb dX0_multiply_4 (by decide) ?_
  refine CTv_Sp (pc := 5) am_no_ok (As := [.ref (ad 6), .long (zL 0)]) (rest := []) ⟨hx, hb, hml, hown, hts⟩ (c_J7_fill_d0a16 l dd (by decide)) (va_cwS 2 hts gX0_multiply_J7_fill_d0a16 rfl rfl rfl (by decide +kernel) ⟨Nat.le_of_ble_eq_true rfl, Nat.le_of_ble_eq_true rfl⟩) hK hP hD hS hA trivial [6] [0, 1, 2, 3, 4, 5, 7, 8, 9, 10, 11, 12, 13, 14] rfl rfl rfl rfl (by decide) rfl hl.1 rfl (Nat.le_of_ble_eq_true rfl) ⟨Nat.zero_le _, Nat.zero_le _⟩ dX0_multiply_5 (fun u H locs hw hP hD hS => ?_)
  try dsimp only at hw
  subst hw
  have hP : va_P dd vwCl (wC ad cI cL cQ (ix) (pw) (sg) (tm) (hd) ((fun k => if k < 12 then zL 0 else (wk) k)) (rc) (lc) (P) ((rootN P)) (D) ((phN D))) H := hP.sub [0, 1, 2, 3, 4, 5, 14, 6, 7, 8, 9, 10, 11, 12, 13] rfl
  have hD : va_D A (wC ad cI cL cQ (ix) (pw) (sg) (tm) (hd) ((fun k => if k < 12 then zL 0 else (wk) k)) (rc) (lc) (P) ((rootN P)) (D) ((phN D))) := hD.sub [0, 1, 2, 3, 4, 5, 14, 6, 7, 8, 9, 10, 11, 12, 13] (by decide) rfl
  refine nv_iconst (pc := 8) (k := 0) hx hb dX0_multiply_8 rfl ?_
  refine lv_istore (pc := 9) (lv' := [(4, .int (nI (0))), (0, .ref (ad 0)), (1, .ref (ad (9 + h1))), (2, .ref (ad (9 + h2))), (3, .int (nI (st)))]) hx hb dX0_multiply_9 hl (by decide) rfl (fun ls hl => ?_)
  have L11 : ∀ (n9_11 : Nat), ∀ (i : Nat) (w1 : Nat → Int64), phN D + 1 - i < n9_11 → (i ≤ phN D) → (∀ j, j < phN D → Lf D j w1 D = mlV D (hlV hv h1) (hlV hv h2) st i j) → ∀ (H : Heap) (locs : List Loc) (ls : Array Slot), va_P dd vwCl (wC ad cI cL cQ (ix) (pw) (sg) (tm) (hd) (w1) (rc) (lc) (P) ((rootN P)) (D) ((phN D))) H → va_D A (wC ad cI cL cQ (ix) (pw) (sg) (tm) (hd) (w1) (rc) (lc) (P) ((rootN P)) (D) ((phN D))) → va_S A s.heap H locs → lv_has ls 6 [(0, .ref (ad 0)), (1, .ref (ad (9 + h1))), (2, .ref (ad (9 + h2))), (3, .int (nI (st))), (4, .int (nI (i)))] → W p l e ({ frames := 1, cells := 0, slots := 0, locals := 24 } : Room) s m args below meth c H locs 0 0 Q (F0 m 11 ls []) := by
    intro n9_11
    induction n9_11 with
    | zero => intro i w1 hm; exact absurd hm (Nat.not_lt_zero _)
    | succ n9_11 ih_11 =>
      intro i w1 hm_11 hi hL1 H locs ls hP hD hS hl
      refine lv_iload (pc := 11) hx hb dX0_multiply_11 (lv_at hl 4 rfl) ?_
      refine lv_aload_n (pc := 13) hx hb dX0_multiply_13 rfl (lv_at hl 0 rfl) ?_
      refine va_get (pc := 14) (D := dd) (ci := 0) (v := .int (nI ((phN D)))) (C := RX0) (T := TX0) (N := 12) hx hb hts hin hown hK hP 0 rfl rfl 11 (by decide) (hts (.fieldLink RX0 55 "TurningSums" "phi" "I") (by decide +kernel)) (fun _ h9 => h9) rfl dX0_multiply_14 ?_
      refine nv_icmp_ge (pc := 17) (tgt := 75) hx hb (a := i) (b := (phN D)) (by omega) (by omega) dX0_multiply_17 (by decide) (fun h17 => ?_) (fun h17 => ?_)
      · skip
        exact hret _ _ _ _ (w1) (fun j z => by rw [hL1 j z, show i = phN D by omega]) hP hD hS dX0_multiply_75
      · skip
        refine nv_iconst (pc := 20) (k := 0) hx hb dX0_multiply_20 rfl ?_
        refine lv_istore (pc := 21) (lv' := [(5, .int (nI (0))), (0, .ref (ad 0)), (1, .ref (ad (9 + h1))), (2, .ref (ad (9 + h2))), (3, .int (nI (st))), (4, .int (nI (i)))]) hx hb dX0_multiply_21 hl (by decide) rfl (fun ls hl => ?_)
        have L23 : ∀ (n9_23 : Nat), ∀ (k : Nat) (w2 : Nat → Int64), phN D + 1 - k < n9_23 → (k ≤ phN D) → (∀ j, j < phN D → Lf D j w2 D = mlV D (hlV hv h1) (hlV hv h2) st i j + rwV D (hlV hv h1) (hlV hv h2) st i k j) → ∀ (H : Heap) (locs : List Loc) (ls : Array Slot), va_P dd vwCl (wC ad cI cL cQ (ix) (pw) (sg) (tm) (hd) (w2) (rc) (lc) (P) ((rootN P)) (D) ((phN D))) H → va_D A (wC ad cI cL cQ (ix) (pw) (sg) (tm) (hd) (w2) (rc) (lc) (P) ((rootN P)) (D) ((phN D))) → va_S A s.heap H locs → lv_has ls 6 [(0, .ref (ad 0)), (1, .ref (ad (9 + h1))), (2, .ref (ad (9 + h2))), (3, .int (nI (st))), (4, .int (nI (i))), (5, .int (nI (k)))] → W p l e ({ frames := 1, cells := 0, slots := 0, locals := 24 } : Room) s m args below meth c H locs 0 0 Q (F0 m 23 ls []) := by
          intro n9_23
          induction n9_23 with
          | zero => intro k w2 hm; exact absurd hm (Nat.not_lt_zero _)
          | succ n9_23 ih_23 =>
            intro k w2 hm_23 hk hL2 H locs ls hP hD hS hl
            have hks := Nat.mul_le_mul hk hst
            have hkm := Nat.mul_le_mul (show k ≤ 12 by omega) hst
            have hm := Nat.mod_lt (i + k * st) (show 0 < D by omega)
            refine lv_iload (pc := 23) hx hb dX0_multiply_23 (lv_at hl 5 rfl) ?_
            refine lv_aload_n (pc := 25) hx hb dX0_multiply_25 rfl (lv_at hl 0 rfl) ?_
            refine va_get (pc := 26) (D := dd) (ci := 0) (v := .int (nI ((phN D)))) (C := RX0) (T := TX0) (N := 12) hx hb hts hin hown hK hP 0 rfl rfl 11 (by decide) (hts (.fieldLink RX0 55 "TurningSums" "phi" "I") (by decide +kernel)) (fun _ h9 => h9) rfl dX0_multiply_26 ?_
            refine nv_icmp_ge (pc := 29) (tgt := 69) hx hb (a := k) (b := (phN D)) (by omega) (by omega) dX0_multiply_29 (by decide) (fun h29 => ?_) (fun h29 => ?_)
            · skip
              refine lv_iinc (pc := 69) (v := nI ((i + 1))) (lv' := [(4, .int (nI ((i + 1)))), (0, .ref (ad 0)), (1, .ref (ad (9 + h1))), (2, .ref (ad (9 + h2))), (3, .int (nI (st))), (5, .int (nI (k)))]) hx hb dX0_multiply_69 hl (k := 4) rfl (nI_inc _) (by decide) rfl (fun ls hl => ?_)
              refine lv_goto (pc := 72) (tgt := 11) hx hb dX0_multiply_72 (by decide) ?_
              exact ih_11 ((i + 1)) (w2) (by omega) (by omega) (fun j z => (hL2 j z).trans (by rw [show k = phN D by omega]; rfl)) _ _ _ hP hD hS (lv_sub hl [1, 2, 3, 4, 0] rfl)
            · skip
              refine lv_aload_n (pc := 32) hx hb dX0_multiply_32 rfl (lv_at hl 0 rfl) ?_
              refine va_get (pc := 33) (D := dd) (ci := 0) (v := .ref (ad 6)) (C := RX0) (T := TX0) (N := 12) hx hb hts hin hown hK hP 0 rfl rfl 5 (by decide) (hts (.fieldLink RX0 27 "TurningSums" "work" "[J") (by decide +kernel)) (fun _ h9 => h9) rfl dX0_multiply_33 ?_
              refine lv_iload (pc := 36) hx hb dX0_multiply_36 (lv_at hl 4 rfl) ?_
              refine lv_iload (pc := 38) hx hb dX0_multiply_38 (lv_at hl 5 rfl) ?_
              refine lv_iload_n (pc := 40) hx hb dX0_multiply_40 rfl (lv_at hl 3 rfl) ?_
              refine nv_imul (pc := 41) hx hb dX0_multiply_41 ?_
              refine nv_iadd (pc := 42) hx hb dX0_multiply_42 ?_
              refine lv_aload_n (pc := 43) hx hb dX0_multiply_43 rfl (lv_at hl 0 rfl) ?_
              refine va_get (pc := 44) (D := dd) (ci := 0) (v := .int (nI (D))) (C := RX0) (T := TX0) (N := 12) hx hb hts hin hown hK hP 0 rfl rfl 10 (by decide) (hts (.fieldLink RX0 74 "TurningSums" "d" "I") (by decide +kernel)) (fun _ h9 => h9) rfl dX0_multiply_44 ?_
              refine nv_irem (pc := 47) hx hb (by omega) (by omega) (by omega) dX0_multiply_47 ?_
              refine lv_dup2_11 (pc := 48) hx hb dX0_multiply_48 rfl rfl ?_
              refine nv_lald (pc := 49) hx hb hK hP 6 1 rfl rfl (i := ((i + (k * st)) % D)) (by omega) (by decide) (v := (w2) (((i + (k * st)) % D))) (rfl) dX0_multiply_49 ?_
              refine lv_aload_n (pc := 50) hx hb dX0_multiply_50 rfl (lv_at hl 1 rfl) ?_
              refine lv_iload (pc := 51) hx hb dX0_multiply_51 (lv_at hl 4 rfl) ?_
              refine nv_iald (pc := 53) hx hb hK hP (9 + (h1)) 0 (hd_get (by omega)) rfl (i := i) (by omega) (by decide) (v := ((hv h1 i))) (hH _ hh1 _ (by omega)) dX0_multiply_53 ?_
              refine lv_i2l (pc := 54) (v := (((hv h1 i))).toInt64) hx hb dX0_multiply_54 (rfl) ?_
              refine lv_aload_n (pc := 55) hx hb dX0_multiply_55 rfl (lv_at hl 2 rfl) ?_
              refine lv_iload (pc := 56) hx hb dX0_multiply_56 (lv_at hl 5 rfl) ?_
              refine nv_iald (pc := 58) hx hb hK hP (9 + (h2)) 0 (hd_get (by omega)) rfl (i := k) (by omega) (by decide) (v := ((hv h2 k))) (hH _ hh2 _ (by omega)) dX0_multiply_58 ?_
              refine lv_i2l (pc := 59) (v := (((hv h2 k))).toInt64) hx hb dX0_multiply_59 (rfl) ?_
              refine lv_lmul (pc := 60) hx hb dX0_multiply_60 ?_
              refine lv_ladd (pc := 61) hx hb dX0_multiply_61 ?_
              refine nv_last (pc := 62) hx hb hK hP hD hS 6 1 rfl rfl (by omega) (by decide) (ws' := (wC ad cI cL cQ (ix) (pw) (sg) (tm) (hd) ((vp_updL (w2) (((i + (k * st)) % D)) (((w2) (((i + (k * st)) % D)) + ((((hv h1 i))).toInt64 * (((hv h2 k))).toInt64))))) (rc) (lc) (P) ((rootN P)) (D) ((phN D)))) rfl dX0_multiply_62 (fun H locs hP hD hS => ?_)
              refine lv_iinc (pc := 63) (v := nI ((k + 1))) (lv' := [(5, .int (nI ((k + 1)))), (0, .ref (ad 0)), (1, .ref (ad (9 + h1))), (2, .ref (ad (9 + h2))), (3, .int (nI (st))), (4, .int (nI (i)))]) hx hb dX0_multiply_63 hl (k := 5) rfl (nI_inc _) (by decide) rfl (fun ls hl => ?_)
              refine lv_goto (pc := 66) (tgt := 23) hx hb dX0_multiply_66 (by decide) ?_
              exact ih_23 ((k + 1)) ((vp_updL (w2) (((i + (k * st)) % D)) (((w2) (((i + (k * st)) % D)) + ((((hv h1 i))).toInt64 * (((hv h2 k))).toInt64))))) (by omega) (by omega) (fun j z => by rw [Lf_add (by omega), hL2 j z, Int64.add_assoc]; rfl) _ _ _ hP hD hS (lv_sub hl [1, 2, 3, 4, 5, 0] rfl)
        exact L23 _ (0) (w1) (Nat.lt_succ_self _) (by omega) (fun j z => by rw [hL1 j z]; exact (Int64.add_zero _).symm) _ _ _ hP hD hS (lv_sub hl [1, 2, 3, 4, 5, 0] rfl)
  exact L11 _ (0) ((fun k => if k < 12 then zL 0 else (wk) k)) (Nat.lt_succ_self _) (by omega) (fun j z => Lf_zero (fun m a => if_pos (by omega))) _ _ _ hP hD hS (lv_sub hl [1, 2, 3, 4, 0] rfl)
set_option maxHeartbeats 4000000 in
set_option maxRecDepth 100000 in
theorem c_X0_sum (l : Launch) (dd : va_G) {ad : Nat → Nat} {cI cL cQ : ClassId} {tR : Nat} {hv : Nat → Nat → Int32} {ix : Nat → Int32} {pw : Nat → Int32} {sg : Nat → Int32} {tm : Nat → Int32} {hd : Nat → Nat → Int32} {wk : Nat → Int64} {rc : Nat → Int64} {lc : Nat → Int64} {P : Nat} {D : Nat} {h : Int} {a : Int} {b : Int} (hhr : -2147483648 ≤ h ∧ h < 2147483648) (har : -2147483648 ≤ a ∧ a < 2147483648) (hbr : -2147483648 ≤ b ∧ b < 2147483648) (hP1 : okP P) (hD1 : 1 ≤ D ∧ D ≤ 12) (hix : ∀ y, 1 ≤ y → y < P → ix y = nI (ixN P y)) (hH : okH D hv hd) : CTi l yX0_sum wsX0_sum ({ frames := 2, cells := 0, slots := 0, locals := 44 } : Room) dd (tysA cI cL cQ) (rX tR) [.ref (ad 0), .int (zI (h)), .int (zI (a)), .int (zI (b))] (wC ad cI cL cQ (ix) (pw) (sg) (tm) (hd) (wk) (rc) (lc) (P) ((rootN P)) (D) ((phN D))) (fun (r : Int32) (u : (Nat → Int64) × (Nat → Nat → Int32)) => (¬ (0 ≤ h ∧ h < 6) ∧ r = zI (-2) ∧ u.2 = hd) ∨ ((0 ≤ h ∧ h < 6) ∧ r = nI (P - 2) ∧ ((inR D (fun j => sumV P D a b P j) ∧ okH D (stR hv h.toNat (fun j => sumV P D a b P j)) u.2) ∨ (¬ inR D (fun j => sumV P D a b P j) ∧ u.2 = hd)))) (fun (u : (Nat → Int64) × (Nat → Nat → Int32)) => (wC ad cI cL cQ (ix) (pw) (sg) (tm) (u.2) (u.1) (rc) (lc) (P) ((rootN P)) (D) ((phN D)))) := by
  refine CTi_of (cc := cX0_sum) (maxL := 7) (by decide +kernel) rfl (Nat.le_of_ble_eq_true rfl) ?_
  intro p e s m args below meth c A Q ls H locs hx hb hts hown hml hP hK hD hS hA hX hl hret
  have hin : ∀ w ∈ wsX00, w ∈ wsX0_sum := by decide +kernel
  have hl : lv_has ls 7 [(0, .ref (ad 0)), (1, .int (zI (h))), (2, .int (zI (a))), (3, .int (zI (b)))] := hl
  obtain ⟨o1, o2, o3, o4, o5, o6⟩ := id hP1
  have hph := ph_rng D (by omega) hD1.1
  refine lv_iload_n (pc := 0) hx hb dX0_sum_0 rfl (lv_at hl 1 rfl) ?_
  refine CTi_S0 (pc := 1) am_no_ok (As := [.int (zI (h))]) (rest := []) ⟨hx, hb, hml, hown, hts⟩ (c_X0_isHold l dd (by omega)) (va_cwS 1 hts gX0_sum_X0_isHold rfl rfl rfl (by decide +kernel) ⟨Nat.le_of_ble_eq_true rfl, Nat.le_of_ble_eq_true rfl⟩) hK hP hD hS hA trivial rfl hl.1 rfl (Nat.le_of_ble_eq_true rfl) ⟨Nat.zero_le _, Nat.zero_le _⟩ dX0_sum_1 (fun r u H locs hw hP hD hS => ?_)
  try dsimp only at hw
  subst hw
  refine bv_if_ne (pc := 4) (tgt := 10) hx hb dX0_sum_4 (by decide) (fun h4 => ?_) (fun h4 => ?_)
  · skip
    refine lv_iload_n (pc := 10) hx hb dX0_sum_10 rfl (lv_at hl 2 rfl) ?_
    refine lv_aload_n (pc := 11) hx hb dX0_sum_11 rfl (lv_at hl 0 rfl) ?_
    refine va_get (pc := 12) (D := dd) (ci := 0) (v := .int (nI (D))) (C := RX0) (T := TX0) (N := 12) hx hb hts hin hown hK hP 0 rfl rfl 10 (by decide) (hts (.fieldLink RX0 74 "TurningSums" "d" "I") (by decide +kernel)) (fun _ h9 => h9) rfl dX0_sum_12 ?_
    refine CTi_S0 (pc := 15) am_no_ok (As := [.int (zI (a)), .int (nI (D))]) (rest := []) ⟨hx, hb, hml, hown, hts⟩ (c_J9_floorMod_7cf53 l dd (by omega) (by omega) (by omega)) (va_cwS 2 hts gX0_sum_J9_floorMod_7cf53 rfl rfl rfl (by decide +kernel) ⟨Nat.le_of_ble_eq_true rfl, Nat.le_of_ble_eq_true rfl⟩) hK hP hD hS hA trivial rfl hl.1 rfl (Nat.le_of_ble_eq_true rfl) ⟨Nat.zero_le _, Nat.zero_le _⟩ dX0_sum_15 (fun r u H locs hw hP hD hS => ?_)
    try dsimp only at hw
    subst hw
    refine lv_istore (pc := 18) (lv' := [(4, .int (nI ((fmN (a) (D))))), (0, .ref (ad 0)), (1, .int (zI (h))), (2, .int (zI (a))), (3, .int (zI (b)))]) hx hb dX0_sum_18 hl (by decide) rfl (fun ls hl => ?_)
    refine lv_iload_n (pc := 20) hx hb dX0_sum_20 rfl (lv_at hl 4 rfl) ?_
    refine lv_aload_n (pc := 21) hx hb dX0_sum_21 rfl (lv_at hl 1 rfl) ?_
    refine va_get (pc := 22) (D := dd) (ci := 0) (v := .int (nI (D))) (C := RX0) (T := TX0) (N := 12) hx hb hts hin hown hK hP 0 rfl rfl 10 (by decide) (hts (.fieldLink RX0 74 "TurningSums" "d" "I") (by decide +kernel)) (fun _ h9 => h9) rfl dX0_sum_22 ?_
    refine CTi_S0 (pc := 25) am_no_ok (As := [.int (zI (b)), .int (nI (D))]) (rest := []) ⟨hx, hb, hml, hown, hts⟩ (c_J9_floorMod_7cf53 l dd (by omega) (by omega) (by omega)) (va_cwS 2 hts gX0_sum_J9_floorMod_7cf53 rfl rfl rfl (by decide +kernel) ⟨Nat.le_of_ble_eq_true rfl, Nat.le_of_ble_eq_true rfl⟩) hK hP hD hS hA trivial rfl hl.1 rfl (Nat.le_of_ble_eq_true rfl) ⟨Nat.zero_le _, Nat.zero_le _⟩ dX0_sum_25 (fun r u H locs hw hP hD hS => ?_)
    try dsimp only at hw
    subst hw
    refine lv_istore (pc := 28) (lv' := [(5, .int (nI ((fmN (b) (D))))), (4, .int (nI ((fmN (a) (D))))), (0, .ref (ad 0)), (1, .int (zI (h))), (2, .int (zI (a))), (3, .int (zI (b)))]) hx hb dX0_sum_28 hl (by decide) rfl (fun ls hl => ?_)
    refine lv_aload_n (pc := 30) hx hb dX0_sum_30 rfl (lv_at hl 2 rfl) ?_
    refine va_get (pc := 31) (D := dd) (ci := 0) (v := .ref (ad 6)) (C := RX0) (T := TX0) (N := 12) hx hb hts hin hown hK hP 0 rfl rfl 5 (by decide) (hts (.fieldLink RX0 27 "TurningSums" "work" "[J") (by decide +kernel)) (fun _ h9 => h9) rfl dX0_sum_31 ?_
    refine lv_lconst (pc := 34) (v := zL 0) hx hb dX0_sum_34 (by decide) ?_
    refine CTv_Sp (pc := 35) am_no_ok (As := [.ref (ad 6), .long (zL 0)]) (rest := []) ⟨hx, hb, hml, hown, hts⟩ (c_J7_fill_d0a16 l dd (by decide)) (va_cwS 2 hts gX0_sum_J7_fill_d0a16 rfl rfl rfl (by decide +kernel) ⟨Nat.le_of_ble_eq_true rfl, Nat.le_of_ble_eq_true rfl⟩) hK hP hD hS hA trivial [6] [0, 1, 2, 3, 4, 5, 7, 8, 9, 10, 11, 12, 13, 14] rfl rfl rfl rfl (by decide) rfl hl.1 rfl (Nat.le_of_ble_eq_true rfl) ⟨Nat.zero_le _, Nat.zero_le _⟩ dX0_sum_35 (fun u H locs hw hP hD hS => ?_)
    try dsimp only at hw
    subst hw
    have hP : va_P dd vwCl (wC ad cI cL cQ (ix) (pw) (sg) (tm) (hd) ((fun k => if k < 12 then zL 0 else (wk) k)) (rc) (lc) (P) ((rootN P)) (D) ((phN D))) H := hP.sub [0, 1, 2, 3, 4, 5, 14, 6, 7, 8, 9, 10, 11, 12, 13] rfl
    have hD : va_D A (wC ad cI cL cQ (ix) (pw) (sg) (tm) (hd) ((fun k => if k < 12 then zL 0 else (wk) k)) (rc) (lc) (P) ((rootN P)) (D) ((phN D))) := hD.sub [0, 1, 2, 3, 4, 5, 14, 6, 7, 8, 9, 10, 11, 12, 13] (by decide) rfl
    refine nv_iconst (pc := 38) (k := 2) hx hb dX0_sum_38 rfl ?_
    refine lv_istore (pc := 39) (lv' := [(6, .int (nI (2))), (5, .int (nI ((fmN (b) (D))))), (4, .int (nI ((fmN (a) (D))))), (0, .ref (ad 0)), (1, .int (zI (h))), (2, .int (zI (a))), (3, .int (zI (b)))]) hx hb dX0_sum_39 hl (by decide) rfl (fun ls hl => ?_)
    have L41 : ∀ (n9_41 : Nat), ∀ (x : Nat) (w2 : Nat → Int64), P + 1 - x < n9_41 → (2 ≤ x ∧ x ≤ P) → (∀ j, j < phN D → Lf D j w2 D = sumV P D a b x j) → ∀ (H : Heap) (locs : List Loc) (ls : Array Slot), va_P dd vwCl (wC ad cI cL cQ (ix) (pw) (sg) (tm) (hd) (w2) (rc) (lc) (P) ((rootN P)) (D) ((phN D))) H → va_D A (wC ad cI cL cQ (ix) (pw) (sg) (tm) (hd) (w2) (rc) (lc) (P) ((rootN P)) (D) ((phN D))) → va_S A s.heap H locs → lv_has ls 7 [(0, .ref (ad 0)), (1, .int (zI (h))), (2, .int (zI (a))), (3, .int (zI (b))), (4, .int (nI ((fmN (a) (D))))), (5, .int (nI ((fmN (b) (D))))), (6, .int (nI (x)))] → W p l e ({ frames := 2, cells := 0, slots := 0, locals := 44 } : Room) s m args below meth c H locs 0 0 Q (F0 m 41 ls []) := by
      intro n9_41
      induction n9_41 with
      | zero => intro x w2 hm; exact absurd hm (Nat.not_lt_zero _)
      | succ n9_41 ih_41 =>
        intro x w2 hm_41 hx9 hL2 H locs ls hP hD hS hl
        have hc1 : clsN P D x < D := Nat.mod_lt _ (by omega)
        have hc2 : clsN P D (P + 1 - x) < D := Nat.mod_lt _ (by omega)
        have hf1 := fmN_lt a (show 0 < D by omega)
        have hf2 := fmN_lt b (show 0 < D by omega)
        have hq1 := Nat.mul_le_mul (show fmN a D ≤ 12 by omega) (show clsN P D x ≤ 12 by omega)
        have hq2 := Nat.mul_le_mul (show fmN b D ≤ 12 by omega) (show clsN P D (P + 1 - x) ≤ 12 by omega)
        have hm := Nat.mod_lt (fmN a D * clsN P D x + fmN b D * clsN P D (P + 1 - x)) (show 0 < D by omega)
        refine lv_iload (pc := 41) hx hb dX0_sum_41 (lv_at hl 6 rfl) ?_
        refine lv_aload_n (pc := 43) hx hb dX0_sum_43 rfl (lv_at hl 0 rfl) ?_
        refine va_get (pc := 44) (D := dd) (ci := 0) (v := .int (nI (P))) (C := RX0) (T := TX0) (N := 12) hx hb hts hin hown hK hP 0 rfl rfl 8 (by decide) (hts (.fieldLink RX0 49 "TurningSums" "p" "I") (by decide +kernel)) (fun _ h9 => h9) rfl dX0_sum_44 ?_
        refine nv_icmp_ge (pc := 47) (tgt := 96) hx hb (a := x) (b := P) (by omega) (by omega) dX0_sum_47 (by decide) (fun h47 => ?_) (fun h47 => ?_)
        · skip
          refine lv_aload_n (pc := 96) hx hb dX0_sum_96 rfl (lv_at hl 0 rfl) ?_
          refine lv_iload_n (pc := 97) hx hb dX0_sum_97 rfl (lv_at hl 1 rfl) ?_
          refine tq_i (pc := 98) (y := nI ((h).toNat)) (zI_toNat (by omega)) ?_
          refine CTi_Vw (pc := 98) (rX_ok tR) (As := [.int (nI ((h).toNat))]) (rest := []) ⟨hx, hb, hml, hown, hts⟩ (c_X0_store l dd (fun j => sumV P D a b P j) hD1 (by omega) (fun j z => (hL2 j z).trans (by rw [show x = P by omega])) hH) (cwV 1 hts gX0_sum_X0_store rfl rfl rfl (by decide +kernel) ⟨Nat.le_of_ble_eq_true rfl, Nat.le_of_ble_eq_true rfl⟩) hK hP hD hS hA hX hK 0 0 rfl rfl rfl rfl hl.1 rfl (Nat.le_of_ble_eq_true rfl) ⟨Nat.zero_le _, Nat.zero_le _⟩ dX0_sum_98 (fun r u H locs hw hP hD hS => ?_)
          try dsimp only at hw
          obtain ⟨wk98, hd98, e9⟩ : ∃ z z2, (z, z2) = u := ⟨_, _, rfl⟩
          rw [← e9] at hw hP hD
          have hw98 := hw
          have hP : va_P dd vwCl (wC ad cI cL cQ (ix) (pw) (sg) (tm) (hd98) (wk98) (rc) (lc) (P) ((rootN P)) (D) ((phN D))) H := hP
          have hD : va_D A (wC ad cI cL cQ (ix) (pw) (sg) (tm) (hd98) (wk98) (rc) (lc) (P) ((rootN P)) (D) ((phN D))) := hD
          refine lv_pop (pc := 101) hx hb dX0_sum_101 rfl ?_
          refine lv_aload_n (pc := 102) hx hb dX0_sum_102 rfl (lv_at hl 0 rfl) ?_
          refine va_get (pc := 103) (D := dd) (ci := 0) (v := .int (nI (P))) (C := RX0) (T := TX0) (N := 12) hx hb hts hin hown hK hP 0 rfl rfl 8 (by decide) (hts (.fieldLink RX0 49 "TurningSums" "p" "I") (by decide +kernel)) (fun _ h9 => h9) rfl dX0_sum_103 ?_
          refine nv_iconst (pc := 106) (k := 2) hx hb dX0_sum_106 rfl ?_
          refine nv_isub (pc := 107) hx hb (by omega) dX0_sum_107 ?_
          exact hret _ _ _ _ _ (wk98, hd98) (Or.inr ⟨h4, rfl, hw98.elim (fun z => Or.inl ⟨z.1, z.2.2⟩) (fun z => Or.inr ⟨z.1, z.2.2⟩)⟩) hP hD hS dX0_sum_108
        · skip
          refine lv_aload_n (pc := 50) hx hb dX0_sum_50 rfl (lv_at hl 0 rfl) ?_
          refine va_get (pc := 51) (D := dd) (ci := 0) (v := .ref (ad 6)) (C := RX0) (T := TX0) (N := 12) hx hb hts hin hown hK hP 0 rfl rfl 5 (by decide) (hts (.fieldLink RX0 27 "TurningSums" "work" "[J") (by decide +kernel)) (fun _ h9 => h9) rfl dX0_sum_51 ?_
          refine lv_iload (pc := 54) hx hb dX0_sum_54 (lv_at hl 4 rfl) ?_
          refine lv_aload_n (pc := 56) hx hb dX0_sum_56 rfl (lv_at hl 0 rfl) ?_
          refine lv_iload (pc := 57) hx hb dX0_sum_57 (lv_at hl 6 rfl) ?_
          refine CTi_Vw (pc := 59) (rX_ok tR) (As := [.int (nI (x))]) (rest := [.int (nI ((fmN (a) (D)))), .ref (ad 6)]) ⟨hx, hb, hml, hown, hts⟩ (c_X0_classOf l dd ⟨o1, o2, hD1.1, hD1.2, hix⟩ (by rw [Nat.mod_eq_of_lt (by omega)]; omega) (by omega)) (cwV 1 hts gX0_sum_X0_classOf rfl rfl rfl (by decide +kernel) ⟨Nat.le_of_ble_eq_true rfl, Nat.le_of_ble_eq_true rfl⟩) hK hP hD hS hA hX hK 0 0 rfl rfl rfl rfl hl.1 rfl (Nat.le_of_ble_eq_true rfl) ⟨Nat.zero_le _, Nat.zero_le _⟩ dX0_sum_59 (fun r u H locs hw hP hD hS => ?_)
          try dsimp only at hw
          subst hw
          refine nv_imul (pc := 62) hx hb dX0_sum_62 ?_
          refine lv_iload (pc := 63) hx hb dX0_sum_63 (lv_at hl 5 rfl) ?_
          refine lv_aload_n (pc := 65) hx hb dX0_sum_65 rfl (lv_at hl 0 rfl) ?_
          refine lv_aload_n (pc := 66) hx hb dX0_sum_66 rfl (lv_at hl 0 rfl) ?_
          refine va_get (pc := 67) (D := dd) (ci := 0) (v := .int (nI (P))) (C := RX0) (T := TX0) (N := 12) hx hb hts hin hown hK hP 0 rfl rfl 8 (by decide) (hts (.fieldLink RX0 49 "TurningSums" "p" "I") (by decide +kernel)) (fun _ h9 => h9) rfl dX0_sum_67 ?_
          refine nv_iconst (pc := 70) (k := 1) hx hb dX0_sum_70 rfl ?_
          refine nv_iadd (pc := 71) hx hb dX0_sum_71 ?_
          refine lv_iload (pc := 72) hx hb dX0_sum_72 (lv_at hl 6 rfl) ?_
          refine nv_isub (pc := 74) hx hb (by omega) dX0_sum_74 ?_
          refine CTi_Vw (pc := 75) (rX_ok tR) (As := [.int (nI (((P + 1) - x)))]) (rest := [.int (nI ((fmN (b) (D)))), .int (nI (((fmN (a) (D)) * (clsN P D (x))))), .ref (ad 6)]) ⟨hx, hb, hml, hown, hts⟩ (c_X0_classOf l dd ⟨o1, o2, hD1.1, hD1.2, hix⟩ (by rw [Nat.mod_eq_of_lt (by omega)]; omega) (by omega)) (cwV 1 hts gX0_sum_X0_classOf rfl rfl rfl (by decide +kernel) ⟨Nat.le_of_ble_eq_true rfl, Nat.le_of_ble_eq_true rfl⟩) hK hP hD hS hA hX hK 0 0 rfl rfl rfl rfl hl.1 rfl (Nat.le_of_ble_eq_true rfl) ⟨Nat.zero_le _, Nat.zero_le _⟩ dX0_sum_75 (fun r u H locs hw hP hD hS => ?_)
          try dsimp only at hw
          subst hw
          refine nv_imul (pc := 78) hx hb dX0_sum_78 ?_
          refine nv_iadd (pc := 79) hx hb dX0_sum_79 ?_
          refine lv_aload_n (pc := 80) hx hb dX0_sum_80 rfl (lv_at hl 0 rfl) ?_
          refine va_get (pc := 81) (D := dd) (ci := 0) (v := .int (nI (D))) (C := RX0) (T := TX0) (N := 12) hx hb hts hin hown hK hP 0 rfl rfl 10 (by decide) (hts (.fieldLink RX0 74 "TurningSums" "d" "I") (by decide +kernel)) (fun _ h9 => h9) rfl dX0_sum_81 ?_
          refine nv_irem (pc := 84) hx hb (by omega) (by omega) (by omega) dX0_sum_84 ?_
          refine lv_dup2_11 (pc := 85) hx hb dX0_sum_85 rfl rfl ?_
          refine nv_lald (pc := 86) hx hb hK hP 6 1 rfl rfl (i := ((((fmN (a) (D)) * (clsN P D (x))) + ((fmN (b) (D)) * (clsN P D (((P + 1) - x))))) % D)) (by omega) (by decide) (v := (w2) (((((fmN (a) (D)) * (clsN P D (x))) + ((fmN (b) (D)) * (clsN P D (((P + 1) - x))))) % D))) (rfl) dX0_sum_86 ?_
          refine lv_lconst (pc := 87) (v := zL 1) hx hb dX0_sum_87 (by decide) ?_
          refine lv_ladd (pc := 88) hx hb dX0_sum_88 ?_
          refine nv_last (pc := 89) hx hb hK hP hD hS 6 1 rfl rfl (by omega) (by decide) (ws' := (wC ad cI cL cQ (ix) (pw) (sg) (tm) (hd) ((vp_updL (w2) (((((fmN (a) (D)) * (clsN P D (x))) + ((fmN (b) (D)) * (clsN P D (((P + 1) - x))))) % D)) (((w2) (((((fmN (a) (D)) * (clsN P D (x))) + ((fmN (b) (D)) * (clsN P D (((P + 1) - x))))) % D)) + zL 1)))) (rc) (lc) (P) ((rootN P)) (D) ((phN D)))) rfl dX0_sum_89 (fun H locs hP hD hS => ?_)
          refine lv_iinc (pc := 90) (v := nI ((x + 1))) (lv' := [(6, .int (nI ((x + 1)))), (0, .ref (ad 0)), (1, .int (zI (h))), (2, .int (zI (a))), (3, .int (zI (b))), (4, .int (nI ((fmN (a) (D))))), (5, .int (nI ((fmN (b) (D)))))]) hx hb dX0_sum_90 hl (k := 6) rfl (nI_inc _) (by decide) rfl (fun ls hl => ?_)
          refine lv_goto (pc := 93) (tgt := 41) hx hb dX0_sum_93 (by decide) ?_
          exact ih_41 ((x + 1)) ((vp_updL (w2) (((((fmN (a) (D)) * (clsN P D (x))) + ((fmN (b) (D)) * (clsN P D (((P + 1) - x))))) % D)) (((w2) (((((fmN (a) (D)) * (clsN P D (x))) + ((fmN (b) (D)) * (clsN P D (((P + 1) - x))))) % D)) + zL 1)))) (by omega) (by omega) (fun j z => by rw [Lf_add (by omega), hL2 j z, sumV_s hx9.1, ← sum_e (by omega)]) _ _ _ hP hD hS (lv_sub hl [1, 2, 3, 4, 5, 6, 0] rfl)
    exact L41 _ (2) ((fun k => if k < 12 then zL 0 else (wk) k)) (Nat.lt_succ_self _) (by omega) (fun j z => by rw [sumV_2]; exact Lf_zero (fun m a => if_pos (by omega))) _ _ _ hP hD hS (lv_sub hl [3, 4, 5, 6, 2, 1, 0] rfl)
  · skip
    refine lv_bipush (pc := 7) (v := zI (-2)) hx hb dX0_sum_7 (by decide) ?_
    exact hret _ _ _ _ _ (wk, hd) (Or.inl ⟨h4, rfl, rfl⟩) hP hD hS dX0_sum_9
set_option maxHeartbeats 4000000 in
set_option maxRecDepth 100000 in
theorem c_X0_unit (l : Launch) (dd : va_G) {ad : Nat → Nat} {cI cL cQ : ClassId} {tR : Nat} {hv : Nat → Nat → Int32} {ix : Nat → Int32} {pw : Nat → Int32} {sg : Nat → Int32} {tm : Nat → Int32} {hd : Nat → Nat → Int32} {wk : Nat → Int64} {rc : Nat → Int64} {lc : Nat → Int64} {P : Nat} {D : Nat} {h : Int} {q9 : Int} {k9 : Int} (hhr : -2147483648 ≤ h ∧ h < 2147483648) (hqr : -2147483648 ≤ q9 ∧ q9 < 2147483648) (hkr : -2147483648 ≤ k9 ∧ k9 < 2147483648) (hP1 : okP P) (hD1 : 1 ≤ D ∧ D ≤ 12) (hH : okH D hv hd) : CTi l yX0_unit wsX0_unit ({ frames := 2, cells := 0, slots := 0, locals := 44 } : Room) dd (tysA cI cL cQ) (rX tR) [.ref (ad 0), .int (zI (h)), .int (zI (q9)), .int (zI (k9))] (wC ad cI cL cQ (ix) (pw) (sg) (tm) (hd) (wk) (rc) (lc) (P) ((rootN P)) (D) ((phN D))) (fun (r : Int32) (u : (Nat → Int64) × (Nat → Nat → Int32)) => (¬ (0 ≤ h ∧ h < 6) ∧ r = zI (-2) ∧ u.2 = hd) ∨ ((0 ≤ h ∧ h < 6) ∧ ¬ (-1000 ≤ q9 ∧ q9 ≤ 1000) ∧ r = zI (-3) ∧ u.2 = hd) ∨ ((0 ≤ h ∧ h < 6) ∧ (-1000 ≤ q9 ∧ q9 ≤ 1000) ∧ ((inR D (unV D q9 k9) ∧ r = nI 1 ∧ okH D (stR hv h.toNat (unV D q9 k9)) u.2) ∨ (¬ inR D (unV D q9 k9) ∧ r = zI (-5) ∧ u.2 = hd)))) (fun (u : (Nat → Int64) × (Nat → Nat → Int32)) => (wC ad cI cL cQ (ix) (pw) (sg) (tm) (u.2) (u.1) (rc) (lc) (P) ((rootN P)) (D) ((phN D)))) := by
  refine CTi_of (cc := cX0_unit) (maxL := 4) (by decide +kernel) rfl (Nat.le_of_ble_eq_true rfl) ?_
  intro p e s m args below meth c A Q ls H locs hx hb hts hown hml hP hK hD hS hA hX hl hret
  have hin : ∀ w ∈ wsX00, w ∈ wsX0_unit := by decide +kernel
  have hl : lv_has ls 4 [(0, .ref (ad 0)), (1, .int (zI (h))), (2, .int (zI (q9))), (3, .int (zI (k9)))] := hl
  obtain ⟨o1, o2, o3, o4, o5, o6⟩ := id hP1
  have hph := ph_rng D (by omega) hD1.1
  have hm := fmN_lt k9 (show 0 < D by omega)
  refine lv_iload_n (pc := 0) hx hb dX0_unit_0 rfl (lv_at hl 1 rfl) ?_
  refine CTi_S0 (pc := 1) am_no_ok (As := [.int (zI (h))]) (rest := []) ⟨hx, hb, hml, hown, hts⟩ (c_X0_isHold l dd (by omega)) (va_cwS 1 hts gX0_unit_X0_isHold rfl rfl rfl (by decide +kernel) ⟨Nat.le_of_ble_eq_true rfl, Nat.le_of_ble_eq_true rfl⟩) hK hP hD hS hA trivial rfl hl.1 rfl (Nat.le_of_ble_eq_true rfl) ⟨Nat.zero_le _, Nat.zero_le _⟩ dX0_unit_1 (fun r u H locs hw hP hD hS => ?_)
  try dsimp only at hw
  subst hw
  refine bv_if_ne (pc := 4) (tgt := 10) hx hb dX0_unit_4 (by decide) (fun h4 => ?_) (fun h4 => ?_)
  · skip
    refine lv_iload_n (pc := 10) hx hb dX0_unit_10 rfl (lv_at hl 2 rfl) ?_
    refine lv_sipush (pc := 11) (v := zI (-1000)) hx hb dX0_unit_11 (by decide) ?_
    refine zv_icmp_lt (pc := 14) (tgt := 24) hx hb (by omega) (by omega) dX0_unit_14 (by decide) (fun h14 => ?_) (fun h14 => ?_)
    · skip
      refine lv_bipush (pc := 24) (v := zI (-3)) hx hb dX0_unit_24 (by decide) ?_
      exact hret _ _ _ _ _ (wk, hd) (Or.inr (Or.inl ⟨h4, by omega, rfl, rfl⟩)) hP hD hS dX0_unit_26
    · skip
      refine lv_iload_n (pc := 17) hx hb dX0_unit_17 rfl (lv_at hl 2 rfl) ?_
      refine nv_sipush (pc := 18) (k := 1000) hx hb dX0_unit_18 rfl (by decide) ?_
      refine zv_2 (pc := 21) (a := ((1000 : Nat) : Int)) (b := q9) ((nI_zI _)) (rfl) ?_
      refine zv_icmp_le (pc := 21) (tgt := 27) hx hb (by omega) (by omega) dX0_unit_21 (by decide) (fun h21 => ?_) (fun h21 => ?_)
      · skip
        refine lv_aload_n (pc := 27) hx hb dX0_unit_27 rfl (lv_at hl 0 rfl) ?_
        refine va_get (pc := 28) (D := dd) (ci := 0) (v := .ref (ad 6)) (C := RX0) (T := TX0) (N := 12) hx hb hts hin hown hK hP 0 rfl rfl 5 (by decide) (hts (.fieldLink RX0 27 "TurningSums" "work" "[J") (by decide +kernel)) (fun _ h9 => h9) rfl dX0_unit_28 ?_
        refine lv_lconst (pc := 31) (v := zL 0) hx hb dX0_unit_31 (by decide) ?_
        refine CTv_Sp (pc := 32) am_no_ok (As := [.ref (ad 6), .long (zL 0)]) (rest := []) ⟨hx, hb, hml, hown, hts⟩ (c_J7_fill_d0a16 l dd (by decide)) (va_cwS 2 hts gX0_unit_J7_fill_d0a16 rfl rfl rfl (by decide +kernel) ⟨Nat.le_of_ble_eq_true rfl, Nat.le_of_ble_eq_true rfl⟩) hK hP hD hS hA trivial [6] [0, 1, 2, 3, 4, 5, 7, 8, 9, 10, 11, 12, 13, 14] rfl rfl rfl rfl (by decide) rfl hl.1 rfl (Nat.le_of_ble_eq_true rfl) ⟨Nat.zero_le _, Nat.zero_le _⟩ dX0_unit_32 (fun u H locs hw hP hD hS => ?_)
        try dsimp only at hw
        subst hw
        have hP : va_P dd vwCl (wC ad cI cL cQ (ix) (pw) (sg) (tm) (hd) ((fun k => if k < 12 then zL 0 else (wk) k)) (rc) (lc) (P) ((rootN P)) (D) ((phN D))) H := hP.sub [0, 1, 2, 3, 4, 5, 14, 6, 7, 8, 9, 10, 11, 12, 13] rfl
        have hD : va_D A (wC ad cI cL cQ (ix) (pw) (sg) (tm) (hd) ((fun k => if k < 12 then zL 0 else (wk) k)) (rc) (lc) (P) ((rootN P)) (D) ((phN D))) := hD.sub [0, 1, 2, 3, 4, 5, 14, 6, 7, 8, 9, 10, 11, 12, 13] (by decide) rfl
        refine lv_aload_n (pc := 35) hx hb dX0_unit_35 rfl (lv_at hl 0 rfl) ?_
        refine va_get (pc := 36) (D := dd) (ci := 0) (v := .ref (ad 6)) (C := RX0) (T := TX0) (N := 12) hx hb hts hin hown hK hP 0 rfl rfl 5 (by decide) (hts (.fieldLink RX0 27 "TurningSums" "work" "[J") (by decide +kernel)) (fun _ h9 => h9) rfl dX0_unit_36 ?_
        refine lv_iload_n (pc := 39) hx hb dX0_unit_39 rfl (lv_at hl 3 rfl) ?_
        refine lv_aload_n (pc := 40) hx hb dX0_unit_40 rfl (lv_at hl 0 rfl) ?_
        refine va_get (pc := 41) (D := dd) (ci := 0) (v := .int (nI (D))) (C := RX0) (T := TX0) (N := 12) hx hb hts hin hown hK hP 0 rfl rfl 10 (by decide) (hts (.fieldLink RX0 74 "TurningSums" "d" "I") (by decide +kernel)) (fun _ h9 => h9) rfl dX0_unit_41 ?_
        refine CTi_S0 (pc := 44) am_no_ok (As := [.int (zI (k9)), .int (nI (D))]) (rest := [.ref (ad 6)]) ⟨hx, hb, hml, hown, hts⟩ (c_J9_floorMod_7cf53 l dd (by omega) (by omega) (by omega)) (va_cwS 2 hts gX0_unit_J9_floorMod_7cf53 rfl rfl rfl (by decide +kernel) ⟨Nat.le_of_ble_eq_true rfl, Nat.le_of_ble_eq_true rfl⟩) hK hP hD hS hA trivial rfl hl.1 rfl (Nat.le_of_ble_eq_true rfl) ⟨Nat.zero_le _, Nat.zero_le _⟩ dX0_unit_44 (fun r u H locs hw hP hD hS => ?_)
        try dsimp only at hw
        subst hw
        refine lv_iload_n (pc := 47) hx hb dX0_unit_47 rfl (lv_at hl 2 rfl) ?_
        refine lv_i2l (pc := 48) (v := zL (q9)) hx hb dX0_unit_48 (zL_zI (by omega) (by omega)) ?_
        refine nv_last (pc := 49) hx hb hK hP hD hS 6 1 rfl rfl (by omega) (by decide) (ws' := (wC ad cI cL cQ (ix) (pw) (sg) (tm) (hd) ((vp_updL ((fun k => if k < 12 then zL 0 else (wk) k)) ((fmN (k9) (D))) (zL (q9)))) (rc) (lc) (P) ((rootN P)) (D) ((phN D)))) rfl dX0_unit_49 (fun H locs hP hD hS => ?_)
        refine lv_aload_n (pc := 50) hx hb dX0_unit_50 rfl (lv_at hl 0 rfl) ?_
        refine lv_iload_n (pc := 51) hx hb dX0_unit_51 rfl (lv_at hl 1 rfl) ?_
        refine tq_i (pc := 52) (y := nI ((h).toNat)) (zI_toNat (by omega)) ?_
        refine CTi_Vw (pc := 52) (rX_ok tR) (As := [.int (nI ((h).toNat))]) (rest := []) ⟨hx, hb, hml, hown, hts⟩ (c_X0_store l dd (unV D q9 k9) hD1 (by omega) (fun j z => Lf_set (fun m a => if_pos (by omega)) hm) hH) (cwV 1 hts gX0_unit_X0_store rfl rfl rfl (by decide +kernel) ⟨Nat.le_of_ble_eq_true rfl, Nat.le_of_ble_eq_true rfl⟩) hK hP hD hS hA hX hK 0 0 rfl rfl rfl rfl hl.1 rfl (Nat.le_of_ble_eq_true rfl) ⟨Nat.zero_le _, Nat.zero_le _⟩ dX0_unit_52 (fun r u H locs hw hP hD hS => ?_)
        try dsimp only at hw
        obtain ⟨wk52, hd52, e9⟩ : ∃ z z2, (z, z2) = u := ⟨_, _, rfl⟩
        rw [← e9] at hw hP hD
        have hw52 := hw
        have hP : va_P dd vwCl (wC ad cI cL cQ (ix) (pw) (sg) (tm) (hd52) (wk52) (rc) (lc) (P) ((rootN P)) (D) ((phN D))) H := hP
        have hD : va_D A (wC ad cI cL cQ (ix) (pw) (sg) (tm) (hd52) (wk52) (rc) (lc) (P) ((rootN P)) (D) ((phN D))) := hD
        exact hret _ _ _ _ _ (wk52, hd52) (Or.inr (Or.inr ⟨h4, by omega, hw52⟩)) hP hD hS dX0_unit_55
      · skip
        refine lv_bipush (pc := 24) (v := zI (-3)) hx hb dX0_unit_24 (by decide) ?_
        exact hret _ _ _ _ _ (wk, hd) (Or.inr (Or.inl ⟨h4, by omega, rfl, rfl⟩)) hP hD hS dX0_unit_26
  · skip
    refine lv_bipush (pc := 7) (v := zI (-2)) hx hb dX0_unit_7 (by decide) ?_
    exact hret _ _ _ _ _ (wk, hd) (Or.inl ⟨h4, rfl, rfl⟩) hP hD hS dX0_unit_9
set_option maxHeartbeats 4000000 in
set_option maxRecDepth 100000 in
theorem c_X0_join (l : Launch) (dd : va_G) {ad : Nat → Nat} {cI cL cQ : ClassId} {tR : Nat} {hv : Nat → Nat → Int32} {ix : Nat → Int32} {pw : Nat → Int32} {sg : Nat → Int32} {tm : Nat → Int32} {hd : Nat → Nat → Int32} {wk : Nat → Int64} {rc : Nat → Int64} {lc : Nat → Int64} {P : Nat} {D : Nat} {h : Int} {way : Int} {o1 : Int} {o2 : Int} (hhr : -2147483648 ≤ h ∧ h < 2147483648) (hwr : -2147483648 ≤ way ∧ way < 2147483648) (h1r : -2147483648 ≤ o1 ∧ o1 < 2147483648) (h2r : -2147483648 ≤ o2 ∧ o2 < 2147483648) (hP1 : okP P) (hD1 : 1 ≤ D ∧ D ≤ 12) (hH : okH D hv hd) : CTi l yX0_join wsX0_join ({ frames := 2, cells := 0, slots := 0, locals := 49 } : Room) dd (tysA cI cL cQ) (rX tR) [.ref (ad 0), .int (zI (h)), .int (zI (way)), .int (zI (o1)), .int (zI (o2))] (wC ad cI cL cQ (ix) (pw) (sg) (tm) (hd) (wk) (rc) (lc) (P) ((rootN P)) (D) ((phN D))) (fun (r : Int32) (u : (Nat → Int64) × (Nat → Nat → Int32)) => (¬ ((0 ≤ h ∧ h < 6) ∧ (0 ≤ o1 ∧ o1 < 6) ∧ (0 ≤ o2 ∧ o2 < 6)) ∧ r = zI (-2) ∧ u.2 = hd) ∨ (((0 ≤ h ∧ h < 6) ∧ (0 ≤ o1 ∧ o1 < 6) ∧ (0 ≤ o2 ∧ o2 < 6)) ∧ ¬ (0 ≤ way ∧ way ≤ 2) ∧ r = zI (-3) ∧ u.2 = hd) ∨ (((0 ≤ h ∧ h < 6) ∧ (0 ≤ o1 ∧ o1 < 6) ∧ (0 ≤ o2 ∧ o2 < 6)) ∧ (0 ≤ way ∧ way ≤ 2) ∧ ((inR D ((fun j => if way = 2 then mlV D (hlV hv o1.toNat) (hlV hv o2.toNat) 1 (phN D) j else adV way (hlV hv o1.toNat) (hlV hv o2.toNat) j)) ∧ r = nI 1 ∧ okH D (stR hv h.toNat ((fun j => if way = 2 then mlV D (hlV hv o1.toNat) (hlV hv o2.toNat) 1 (phN D) j else adV way (hlV hv o1.toNat) (hlV hv o2.toNat) j))) u.2) ∨ (¬ inR D ((fun j => if way = 2 then mlV D (hlV hv o1.toNat) (hlV hv o2.toNat) 1 (phN D) j else adV way (hlV hv o1.toNat) (hlV hv o2.toNat) j)) ∧ r = zI (-5) ∧ u.2 = hd)))) (fun (u : (Nat → Int64) × (Nat → Nat → Int32)) => (wC ad cI cL cQ (ix) (pw) (sg) (tm) (u.2) (u.1) (rc) (lc) (P) ((rootN P)) (D) ((phN D)))) := by
  refine CTi_of (cc := cX0_join) (maxL := 5) (by decide +kernel) rfl (Nat.le_of_ble_eq_true rfl) ?_
  intro p e s m args below meth c A Q ls H locs hx hb hts hown hml hP hK hD hS hA hX hl hret
  have hin : ∀ w ∈ wsX00, w ∈ wsX0_join := by decide +kernel
  have hl : lv_has ls 5 [(0, .ref (ad 0)), (1, .int (zI (h))), (2, .int (zI (way))), (3, .int (zI (o1))), (4, .int (zI (o2)))] := hl
  obtain ⟨p1, p2, p3, p4, p5, p6⟩ := id hP1
  have hph := ph_rng D (by omega) hD1.1
  refine lv_iload_n (pc := 0) hx hb dX0_join_0 rfl (lv_at hl 1 rfl) ?_
  refine CTi_S0 (pc := 1) am_no_ok (As := [.int (zI (h))]) (rest := []) ⟨hx, hb, hml, hown, hts⟩ (c_X0_isHold l dd (by omega)) (va_cwS 1 hts gX0_join_X0_isHold rfl rfl rfl (by decide +kernel) ⟨Nat.le_of_ble_eq_true rfl, Nat.le_of_ble_eq_true rfl⟩) hK hP hD hS hA trivial rfl hl.1 rfl (Nat.le_of_ble_eq_true rfl) ⟨Nat.zero_le _, Nat.zero_le _⟩ dX0_join_1 (fun r u H locs hw hP hD hS => ?_)
  try dsimp only at hw
  subst hw
  refine bv_if_eq (pc := 4) (tgt := 22) hx hb dX0_join_4 (by decide) (fun h4 => ?_) (fun h4 => ?_)
  · skip
    refine lv_bipush (pc := 22) (v := zI (-2)) hx hb dX0_join_22 (by decide) ?_
    exact hret _ _ _ _ _ (wk, hd) (Or.inl ⟨by omega, rfl, rfl⟩) hP hD hS dX0_join_24
  · skip
    refine lv_iload_n (pc := 7) hx hb dX0_join_7 rfl (lv_at hl 3 rfl) ?_
    refine CTi_S0 (pc := 8) am_no_ok (As := [.int (zI (o1))]) (rest := []) ⟨hx, hb, hml, hown, hts⟩ (c_X0_isHold l dd (by omega)) (va_cwS 1 hts gX0_join_X0_isHold rfl rfl rfl (by decide +kernel) ⟨Nat.le_of_ble_eq_true rfl, Nat.le_of_ble_eq_true rfl⟩) hK hP hD hS hA trivial rfl hl.1 rfl (Nat.le_of_ble_eq_true rfl) ⟨Nat.zero_le _, Nat.zero_le _⟩ dX0_join_8 (fun r u H locs hw hP hD hS => ?_)
    try dsimp only at hw
    subst hw
    refine bv_if_eq (pc := 11) (tgt := 22) hx hb dX0_join_11 (by decide) (fun h11 => ?_) (fun h11 => ?_)
    · skip
      refine lv_bipush (pc := 22) (v := zI (-2)) hx hb dX0_join_22 (by decide) ?_
      exact hret _ _ _ _ _ (wk, hd) (Or.inl ⟨by omega, rfl, rfl⟩) hP hD hS dX0_join_24
    · skip
      refine lv_iload (pc := 14) hx hb dX0_join_14 (lv_at hl 4 rfl) ?_
      refine CTi_S0 (pc := 16) am_no_ok (As := [.int (zI (o2))]) (rest := []) ⟨hx, hb, hml, hown, hts⟩ (c_X0_isHold l dd (by omega)) (va_cwS 1 hts gX0_join_X0_isHold rfl rfl rfl (by decide +kernel) ⟨Nat.le_of_ble_eq_true rfl, Nat.le_of_ble_eq_true rfl⟩) hK hP hD hS hA trivial rfl hl.1 rfl (Nat.le_of_ble_eq_true rfl) ⟨Nat.zero_le _, Nat.zero_le _⟩ dX0_join_16 (fun r u H locs hw hP hD hS => ?_)
      try dsimp only at hw
      subst hw
      refine bv_if_ne (pc := 19) (tgt := 25) hx hb dX0_join_19 (by decide) (fun h19 => ?_) (fun h19 => ?_)
      · skip
        refine lv_iload_n (pc := 25) hx hb dX0_join_25 rfl (lv_at hl 2 rfl) ?_
        refine zv_if_lt (pc := 26) (tgt := 34) hx hb (by omega) dX0_join_26 (by decide) (fun h26 => ?_) (fun h26 => ?_)
        · skip
          refine lv_bipush (pc := 34) (v := zI (-3)) hx hb dX0_join_34 (by decide) ?_
          exact hret _ _ _ _ _ (wk, hd) (Or.inr (Or.inl ⟨by omega, by omega, rfl, rfl⟩)) hP hD hS dX0_join_36
        · skip
          refine lv_iload_n (pc := 29) hx hb dX0_join_29 rfl (lv_at hl 2 rfl) ?_
          refine nv_iconst (pc := 30) (k := 2) hx hb dX0_join_30 rfl ?_
          refine zv_2 (pc := 31) (a := ((2 : Nat) : Int)) (b := way) ((nI_zI _)) (rfl) ?_
          refine zv_icmp_le (pc := 31) (tgt := 37) hx hb (by omega) (by omega) dX0_join_31 (by decide) (fun h31 => ?_) (fun h31 => ?_)
          · skip
            refine lv_iload_n (pc := 37) hx hb dX0_join_37 rfl (lv_at hl 2 rfl) ?_
            refine nv_iconst (pc := 38) (k := 2) hx hb dX0_join_38 rfl ?_
            refine zv_2 (pc := 39) (a := ((2 : Nat) : Int)) (b := way) ((nI_zI _)) (rfl) ?_
            refine zv_icmp_ne (pc := 39) (tgt := 63) hx hb (by omega) (by omega) dX0_join_39 (by decide) (fun h39 => ?_) (fun h39 => ?_)
            · skip
              refine lv_aload_n (pc := 63) hx hb dX0_join_63 rfl (lv_at hl 0 rfl) ?_
              refine lv_aload_n (pc := 64) hx hb dX0_join_64 rfl (lv_at hl 0 rfl) ?_
              refine va_get (pc := 65) (D := dd) (ci := 0) (v := .ref (ad 5)) (C := RX0) (T := TX0) (N := 12) hx hb hts hin hown hK hP 0 rfl rfl 4 (by decide) (hts (.fieldLink RX0 24 "TurningSums" "holds" "[[I") (by decide +kernel)) (fun _ h9 => h9) rfl dX0_join_65 ?_
              refine lv_iload_n (pc := 68) hx hb dX0_join_68 rfl (lv_at hl 3 rfl) ?_
              refine tq_i (y := nI ((o1).toNat)) (zI_toNat (by omega)) ?_
              refine nv_aald (pc := 69) hx hb hK hP 5 2 rfl rfl (i := (o1).toNat) (by omega) (by decide) (if_pos (by omega)) dX0_join_69 ?_
              refine lv_aload_n (pc := 70) hx hb dX0_join_70 rfl (lv_at hl 0 rfl) ?_
              refine va_get (pc := 71) (D := dd) (ci := 0) (v := .ref (ad 5)) (C := RX0) (T := TX0) (N := 12) hx hb hts hin hown hK hP 0 rfl rfl 4 (by decide) (hts (.fieldLink RX0 24 "TurningSums" "holds" "[[I") (by decide +kernel)) (fun _ h9 => h9) rfl dX0_join_71 ?_
              refine lv_iload (pc := 74) hx hb dX0_join_74 (lv_at hl 4 rfl) ?_
              refine tq_i (y := nI ((o2).toNat)) (zI_toNat (by omega)) ?_
              refine nv_aald (pc := 76) hx hb hK hP 5 2 rfl rfl (i := (o2).toNat) (by omega) (by decide) (if_pos (by omega)) dX0_join_76 ?_
              refine lv_iload_n (pc := 77) hx hb dX0_join_77 rfl (lv_at hl 2 rfl) ?_
              refine zv_if_ne (pc := 78) (tgt := 85) hx hb (by omega) dX0_join_78 (by decide) (fun h78 => ?_) (fun h78 => ?_)
              · skip
                refine lv_iconst (pc := 85) (v := zI (-1)) hx hb dX0_join_85 rfl ?_
                refine CTv_Vw (pc := 86) (rX_ok tR) (As := [.ref (ad (9 + ((o1).toNat))), .ref (ad (9 + ((o2).toNat))), .int (zI ((-1)))]) (rest := []) ⟨hx, hb, hml, hown, hts⟩ (c_X0_add l dd hD1 (by omega) (by omega) (Or.inr ⟨by omega, rfl⟩) hH) (cwV 3 hts gX0_join_X0_add rfl rfl rfl (by decide +kernel) ⟨Nat.le_of_ble_eq_true rfl, Nat.le_of_ble_eq_true rfl⟩) hK hP hD hS hA hX hK 0 0 rfl rfl rfl rfl hl.1 rfl (Nat.le_of_ble_eq_true rfl) ⟨Nat.zero_le _, Nat.zero_le _⟩ dX0_join_86 (fun u H locs hw hP hD hS => ?_)
                try dsimp only at hw
                obtain ⟨wk86, e9⟩ : ∃ z, z = u := ⟨_, rfl⟩
                rw [← e9] at hw hP hD
                have hw86 := hw
                have hP : va_P dd vwCl (wC ad cI cL cQ (ix) (pw) (sg) (tm) (hd) (wk86) (rc) (lc) (P) ((rootN P)) (D) ((phN D))) H := hP
                have hD : va_D A (wC ad cI cL cQ (ix) (pw) (sg) (tm) (hd) (wk86) (rc) (lc) (P) ((rootN P)) (D) ((phN D))) := hD
                refine lv_aload_n (pc := 89) hx hb dX0_join_89 rfl (lv_at hl 0 rfl) ?_
                refine lv_iload_n (pc := 90) hx hb dX0_join_90 rfl (lv_at hl 1 rfl) ?_
                refine tq_i (pc := 91) (y := nI ((h).toNat)) (zI_toNat (by omega)) ?_
                refine CTi_Vw (pc := 91) (rX_ok tR) (As := [.int (nI ((h).toNat))]) (rest := []) ⟨hx, hb, hml, hown, hts⟩ (c_X0_store l dd (fun j => if way = 2 then mlV D (hlV hv o1.toNat) (hlV hv o2.toNat) 1 (phN D) j else adV way (hlV hv o1.toNat) (hlV hv o2.toNat) j) hD1 (by omega) (fun j z => (hw86 j z).trans (if_neg (by omega)).symm) hH) (cwV 1 hts gX0_join_X0_store rfl rfl rfl (by decide +kernel) ⟨Nat.le_of_ble_eq_true rfl, Nat.le_of_ble_eq_true rfl⟩) hK hP hD hS hA hX hK 0 0 rfl rfl rfl rfl hl.1 rfl (Nat.le_of_ble_eq_true rfl) ⟨Nat.zero_le _, Nat.zero_le _⟩ dX0_join_91 (fun r u H locs hw hP hD hS => ?_)
                try dsimp only at hw
                obtain ⟨wk91, hd91, e9⟩ : ∃ z z2, (z, z2) = u := ⟨_, _, rfl⟩
                rw [← e9] at hw hP hD
                have hw91 := hw
                have hP : va_P dd vwCl (wC ad cI cL cQ (ix) (pw) (sg) (tm) (hd91) (wk91) (rc) (lc) (P) ((rootN P)) (D) ((phN D))) H := hP
                have hD : va_D A (wC ad cI cL cQ (ix) (pw) (sg) (tm) (hd91) (wk91) (rc) (lc) (P) ((rootN P)) (D) ((phN D))) := hD
                exact hret _ _ _ _ _ (wk91, hd91) (Or.inr (Or.inr ⟨by omega, by omega, hw91⟩)) hP hD hS dX0_join_94
              · skip
                refine nv_iconst (pc := 81) (k := 1) hx hb dX0_join_81 rfl ?_
                refine lv_goto (pc := 82) (tgt := 86) hx hb dX0_join_82 (by decide) ?_
                refine tq_i (pc := 86) (y := zI (((1 : Nat) : Int))) ((nI_zI _)) ?_
                refine CTv_Vw (pc := 86) (rX_ok tR) (As := [.ref (ad (9 + ((o1).toNat))), .ref (ad (9 + ((o2).toNat))), .int (zI (((1 : Nat) : Int)))]) (rest := []) ⟨hx, hb, hml, hown, hts⟩ (c_X0_add l dd hD1 (by omega) (by omega) (Or.inl ⟨by omega, rfl⟩) hH) (cwV 3 hts gX0_join_X0_add rfl rfl rfl (by decide +kernel) ⟨Nat.le_of_ble_eq_true rfl, Nat.le_of_ble_eq_true rfl⟩) hK hP hD hS hA hX hK 0 0 rfl rfl rfl rfl hl.1 rfl (Nat.le_of_ble_eq_true rfl) ⟨Nat.zero_le _, Nat.zero_le _⟩ dX0_join_86 (fun u H locs hw hP hD hS => ?_)
                try dsimp only at hw
                obtain ⟨wk86, e9⟩ : ∃ z, z = u := ⟨_, rfl⟩
                rw [← e9] at hw hP hD
                have hw86 := hw
                have hP : va_P dd vwCl (wC ad cI cL cQ (ix) (pw) (sg) (tm) (hd) (wk86) (rc) (lc) (P) ((rootN P)) (D) ((phN D))) H := hP
                have hD : va_D A (wC ad cI cL cQ (ix) (pw) (sg) (tm) (hd) (wk86) (rc) (lc) (P) ((rootN P)) (D) ((phN D))) := hD
                refine lv_aload_n (pc := 89) hx hb dX0_join_89 rfl (lv_at hl 0 rfl) ?_
                refine lv_iload_n (pc := 90) hx hb dX0_join_90 rfl (lv_at hl 1 rfl) ?_
                refine tq_i (pc := 91) (y := nI ((h).toNat)) (zI_toNat (by omega)) ?_
                refine CTi_Vw (pc := 91) (rX_ok tR) (As := [.int (nI ((h).toNat))]) (rest := []) ⟨hx, hb, hml, hown, hts⟩ (c_X0_store l dd (fun j => if way = 2 then mlV D (hlV hv o1.toNat) (hlV hv o2.toNat) 1 (phN D) j else adV way (hlV hv o1.toNat) (hlV hv o2.toNat) j) hD1 (by omega) (fun j z => (hw86 j z).trans (if_neg (by omega)).symm) hH) (cwV 1 hts gX0_join_X0_store rfl rfl rfl (by decide +kernel) ⟨Nat.le_of_ble_eq_true rfl, Nat.le_of_ble_eq_true rfl⟩) hK hP hD hS hA hX hK 0 0 rfl rfl rfl rfl hl.1 rfl (Nat.le_of_ble_eq_true rfl) ⟨Nat.zero_le _, Nat.zero_le _⟩ dX0_join_91 (fun r u H locs hw hP hD hS => ?_)
                try dsimp only at hw
                obtain ⟨wk91, hd91, e9⟩ : ∃ z z2, (z, z2) = u := ⟨_, _, rfl⟩
                rw [← e9] at hw hP hD
                have hw91 := hw
                have hP : va_P dd vwCl (wC ad cI cL cQ (ix) (pw) (sg) (tm) (hd91) (wk91) (rc) (lc) (P) ((rootN P)) (D) ((phN D))) H := hP
                have hD : va_D A (wC ad cI cL cQ (ix) (pw) (sg) (tm) (hd91) (wk91) (rc) (lc) (P) ((rootN P)) (D) ((phN D))) := hD
                exact hret _ _ _ _ _ (wk91, hd91) (Or.inr (Or.inr ⟨by omega, by omega, hw91⟩)) hP hD hS dX0_join_94
            · skip
              refine lv_aload_n (pc := 42) hx hb dX0_join_42 rfl (lv_at hl 0 rfl) ?_
              refine lv_aload_n (pc := 43) hx hb dX0_join_43 rfl (lv_at hl 0 rfl) ?_
              refine va_get (pc := 44) (D := dd) (ci := 0) (v := .ref (ad 5)) (C := RX0) (T := TX0) (N := 12) hx hb hts hin hown hK hP 0 rfl rfl 4 (by decide) (hts (.fieldLink RX0 24 "TurningSums" "holds" "[[I") (by decide +kernel)) (fun _ h9 => h9) rfl dX0_join_44 ?_
              refine lv_iload_n (pc := 47) hx hb dX0_join_47 rfl (lv_at hl 3 rfl) ?_
              refine tq_i (y := nI ((o1).toNat)) (zI_toNat (by omega)) ?_
              refine nv_aald (pc := 48) hx hb hK hP 5 2 rfl rfl (i := (o1).toNat) (by omega) (by decide) (if_pos (by omega)) dX0_join_48 ?_
              refine lv_aload_n (pc := 49) hx hb dX0_join_49 rfl (lv_at hl 0 rfl) ?_
              refine va_get (pc := 50) (D := dd) (ci := 0) (v := .ref (ad 5)) (C := RX0) (T := TX0) (N := 12) hx hb hts hin hown hK hP 0 rfl rfl 4 (by decide) (hts (.fieldLink RX0 24 "TurningSums" "holds" "[[I") (by decide +kernel)) (fun _ h9 => h9) rfl dX0_join_50 ?_
              refine lv_iload (pc := 53) hx hb dX0_join_53 (lv_at hl 4 rfl) ?_
              refine tq_i (y := nI ((o2).toNat)) (zI_toNat (by omega)) ?_
              refine nv_aald (pc := 55) hx hb hK hP 5 2 rfl rfl (i := (o2).toNat) (by omega) (by decide) (if_pos (by omega)) dX0_join_55 ?_
              refine nv_iconst (pc := 56) (k := 1) hx hb dX0_join_56 rfl ?_
              refine CTv_Vw (pc := 57) (rX_ok tR) (As := [.ref (ad (9 + ((o1).toNat))), .ref (ad (9 + ((o2).toNat))), .int (nI (1))]) (rest := []) ⟨hx, hb, hml, hown, hts⟩ (c_X0_multiply l dd hD1 (by omega) (by omega) (by omega) hH) (cwV 3 hts gX0_join_X0_multiply rfl rfl rfl (by decide +kernel) ⟨Nat.le_of_ble_eq_true rfl, Nat.le_of_ble_eq_true rfl⟩) hK hP hD hS hA hX hK 0 0 rfl rfl rfl rfl hl.1 rfl (Nat.le_of_ble_eq_true rfl) ⟨Nat.zero_le _, Nat.zero_le _⟩ dX0_join_57 (fun u H locs hw hP hD hS => ?_)
              try dsimp only at hw
              obtain ⟨wk57, e9⟩ : ∃ z, z = u := ⟨_, rfl⟩
              rw [← e9] at hw hP hD
              have hw57 := hw
              have hP : va_P dd vwCl (wC ad cI cL cQ (ix) (pw) (sg) (tm) (hd) (wk57) (rc) (lc) (P) ((rootN P)) (D) ((phN D))) H := hP
              have hD : va_D A (wC ad cI cL cQ (ix) (pw) (sg) (tm) (hd) (wk57) (rc) (lc) (P) ((rootN P)) (D) ((phN D))) := hD
              refine lv_goto (pc := 60) (tgt := 89) hx hb dX0_join_60 (by decide) ?_
              refine lv_aload_n (pc := 89) hx hb dX0_join_89 rfl (lv_at hl 0 rfl) ?_
              refine lv_iload_n (pc := 90) hx hb dX0_join_90 rfl (lv_at hl 1 rfl) ?_
              refine tq_i (pc := 91) (y := nI ((h).toNat)) (zI_toNat (by omega)) ?_
              refine CTi_Vw (pc := 91) (rX_ok tR) (As := [.int (nI ((h).toNat))]) (rest := []) ⟨hx, hb, hml, hown, hts⟩ (c_X0_store l dd (fun j => if way = 2 then mlV D (hlV hv o1.toNat) (hlV hv o2.toNat) 1 (phN D) j else adV way (hlV hv o1.toNat) (hlV hv o2.toNat) j) hD1 (by omega) (fun j z => (hw57 j z).trans (if_pos (by omega)).symm) hH) (cwV 1 hts gX0_join_X0_store rfl rfl rfl (by decide +kernel) ⟨Nat.le_of_ble_eq_true rfl, Nat.le_of_ble_eq_true rfl⟩) hK hP hD hS hA hX hK 0 0 rfl rfl rfl rfl hl.1 rfl (Nat.le_of_ble_eq_true rfl) ⟨Nat.zero_le _, Nat.zero_le _⟩ dX0_join_91 (fun r u H locs hw hP hD hS => ?_)
              try dsimp only at hw
              obtain ⟨wk91, hd91, e9⟩ : ∃ z z2, (z, z2) = u := ⟨_, _, rfl⟩
              rw [← e9] at hw hP hD
              have hw91 := hw
              have hP : va_P dd vwCl (wC ad cI cL cQ (ix) (pw) (sg) (tm) (hd91) (wk91) (rc) (lc) (P) ((rootN P)) (D) ((phN D))) H := hP
              have hD : va_D A (wC ad cI cL cQ (ix) (pw) (sg) (tm) (hd91) (wk91) (rc) (lc) (P) ((rootN P)) (D) ((phN D))) := hD
              exact hret _ _ _ _ _ (wk91, hd91) (Or.inr (Or.inr ⟨by omega, by omega, hw91⟩)) hP hD hS dX0_join_94
          · skip
            refine lv_bipush (pc := 34) (v := zI (-3)) hx hb dX0_join_34 (by decide) ?_
            exact hret _ _ _ _ _ (wk, hd) (Or.inr (Or.inl ⟨by omega, by omega, rfl, rfl⟩)) hP hD hS dX0_join_36
      · skip
        refine lv_bipush (pc := 22) (v := zI (-2)) hx hb dX0_join_22 (by decide) ?_
        exact hret _ _ _ _ _ (wk, hd) (Or.inl ⟨by omega, rfl, rfl⟩) hP hD hS dX0_join_24
set_option maxHeartbeats 4000000 in
set_option maxRecDepth 100000 in
theorem c_X0_turn (l : Launch) (dd : va_G) {ad : Nat → Nat} {cI cL cQ : ClassId} {tR : Nat} {hv : Nat → Nat → Int32} {ix : Nat → Int32} {pw : Nat → Int32} {sg : Nat → Int32} {tm : Nat → Int32} {hd : Nat → Nat → Int32} {wk : Nat → Int64} {rc : Nat → Int64} {lc : Nat → Int64} {P : Nat} {D : Nat} {h : Int} {o : Int} {t : Int} (hhr : -2147483648 ≤ h ∧ h < 2147483648) (hor : -2147483648 ≤ o ∧ o < 2147483648) (htr : -2147483648 ≤ t ∧ t < 2147483648) (hP1 : okP P) (hD1 : 1 ≤ D ∧ D ≤ 12) (hH : okH D hv hd) : CTi l yX0_turn wsX0_turn ({ frames := 2, cells := 0, slots := 0, locals := 44 } : Room) dd (tysA cI cL cQ) (rX tR) [.ref (ad 0), .int (zI (h)), .int (zI (o)), .int (zI (t))] (wC ad cI cL cQ (ix) (pw) (sg) (tm) (hd) (wk) (rc) (lc) (P) ((rootN P)) (D) ((phN D))) (fun (r : Int32) (u : (Nat → Int64) × (Nat → Nat → Int32)) => (¬ ((0 ≤ h ∧ h < 6) ∧ (0 ≤ o ∧ o < 6)) ∧ r = zI (-2) ∧ u.2 = hd) ∨ (((0 ≤ h ∧ h < 6) ∧ (0 ≤ o ∧ o < 6)) ∧ coN D t = false ∧ r = zI (-3) ∧ u.2 = hd) ∨ (((0 ≤ h ∧ h < 6) ∧ (0 ≤ o ∧ o < 6)) ∧ coN D t = true ∧ ((inR D (fun j => tnV D (hlV hv o.toNat) t (phN D) j) ∧ r = nI 1 ∧ okH D (stR hv h.toNat (fun j => tnV D (hlV hv o.toNat) t (phN D) j)) u.2) ∨ (¬ inR D (fun j => tnV D (hlV hv o.toNat) t (phN D) j) ∧ r = zI (-5) ∧ u.2 = hd)))) (fun (u : (Nat → Int64) × (Nat → Nat → Int32)) => (wC ad cI cL cQ (ix) (pw) (sg) (tm) (u.2) (u.1) (rc) (lc) (P) ((rootN P)) (D) ((phN D)))) := by
  refine CTi_of (cc := cX0_turn) (maxL := 6) (by decide +kernel) rfl (Nat.le_of_ble_eq_true rfl) ?_
  intro p e s m args below meth c A Q ls H locs hx hb hts hown hml hP hK hD hS hA hX hl hret
  have hin : ∀ w ∈ wsX00, w ∈ wsX0_turn := by decide +kernel
  have hl : lv_has ls 6 [(0, .ref (ad 0)), (1, .int (zI (h))), (2, .int (zI (o))), (3, .int (zI (t)))] := hl
  obtain ⟨o1, o2, o3, o4, o5, o6⟩ := id hP1
  have hph := ph_rng D (by omega) hD1.1
  have hf := fmN_lt t (show 0 < D by omega)
  refine lv_iload_n (pc := 0) hx hb dX0_turn_0 rfl (lv_at hl 1 rfl) ?_
  refine CTi_S0 (pc := 1) am_no_ok (As := [.int (zI (h))]) (rest := []) ⟨hx, hb, hml, hown, hts⟩ (c_X0_isHold l dd (by omega)) (va_cwS 1 hts gX0_turn_X0_isHold rfl rfl rfl (by decide +kernel) ⟨Nat.le_of_ble_eq_true rfl, Nat.le_of_ble_eq_true rfl⟩) hK hP hD hS hA trivial rfl hl.1 rfl (Nat.le_of_ble_eq_true rfl) ⟨Nat.zero_le _, Nat.zero_le _⟩ dX0_turn_1 (fun r u H locs hw hP hD hS => ?_)
  try dsimp only at hw
  subst hw
  refine bv_if_eq (pc := 4) (tgt := 14) hx hb dX0_turn_4 (by decide) (fun h4 => ?_) (fun h4 => ?_)
  · skip
    refine lv_bipush (pc := 14) (v := zI (-2)) hx hb dX0_turn_14 (by decide) ?_
    exact hret _ _ _ _ _ (wk, hd) (Or.inl ⟨by omega, rfl, rfl⟩) hP hD hS dX0_turn_16
  · skip
    refine lv_iload_n (pc := 7) hx hb dX0_turn_7 rfl (lv_at hl 2 rfl) ?_
    refine CTi_S0 (pc := 8) am_no_ok (As := [.int (zI (o))]) (rest := []) ⟨hx, hb, hml, hown, hts⟩ (c_X0_isHold l dd (by omega)) (va_cwS 1 hts gX0_turn_X0_isHold rfl rfl rfl (by decide +kernel) ⟨Nat.le_of_ble_eq_true rfl, Nat.le_of_ble_eq_true rfl⟩) hK hP hD hS hA trivial rfl hl.1 rfl (Nat.le_of_ble_eq_true rfl) ⟨Nat.zero_le _, Nat.zero_le _⟩ dX0_turn_8 (fun r u H locs hw hP hD hS => ?_)
    try dsimp only at hw
    subst hw
    refine bv_if_ne (pc := 11) (tgt := 17) hx hb dX0_turn_11 (by decide) (fun h11 => ?_) (fun h11 => ?_)
    · skip
      refine lv_aload_n (pc := 17) hx hb dX0_turn_17 rfl (lv_at hl 0 rfl) ?_
      refine lv_iload_n (pc := 18) hx hb dX0_turn_18 rfl (lv_at hl 3 rfl) ?_
      refine CTi_Vw (pc := 19) (rX_ok tR) (As := [.int (zI (t))]) (rest := []) ⟨hx, hb, hml, hown, hts⟩ (c_X0_sharesDivisor l dd (by omega) (by omega) (by omega)) (cwV 1 hts gX0_turn_X0_sharesDivisor rfl rfl rfl (by decide +kernel) ⟨Nat.le_of_ble_eq_true rfl, Nat.le_of_ble_eq_true rfl⟩) hK hP hD hS hA hX hK 0 0 rfl rfl rfl rfl hl.1 rfl (Nat.le_of_ble_eq_true rfl) ⟨Nat.zero_le _, Nat.zero_le _⟩ dX0_turn_19 (fun r u H locs hw hP hD hS => ?_)
      try dsimp only at hw
      subst hw
      refine bv_if_eq (pc := 22) (tgt := 28) hx hb dX0_turn_22 (by decide) (fun h22 => ?_) (fun h22 => ?_)
      · skip
        refine lv_iload_n (pc := 28) hx hb dX0_turn_28 rfl (lv_at hl 3 rfl) ?_
        refine lv_aload_n (pc := 29) hx hb dX0_turn_29 rfl (lv_at hl 0 rfl) ?_
        refine va_get (pc := 30) (D := dd) (ci := 0) (v := .int (nI (D))) (C := RX0) (T := TX0) (N := 12) hx hb hts hin hown hK hP 0 rfl rfl 10 (by decide) (hts (.fieldLink RX0 74 "TurningSums" "d" "I") (by decide +kernel)) (fun _ h9 => h9) rfl dX0_turn_30 ?_
        refine CTi_S0 (pc := 33) am_no_ok (As := [.int (zI (t)), .int (nI (D))]) (rest := []) ⟨hx, hb, hml, hown, hts⟩ (c_J9_floorMod_7cf53 l dd (by omega) (by omega) (by omega)) (va_cwS 2 hts gX0_turn_J9_floorMod_7cf53 rfl rfl rfl (by decide +kernel) ⟨Nat.le_of_ble_eq_true rfl, Nat.le_of_ble_eq_true rfl⟩) hK hP hD hS hA trivial rfl hl.1 rfl (Nat.le_of_ble_eq_true rfl) ⟨Nat.zero_le _, Nat.zero_le _⟩ dX0_turn_33 (fun r u H locs hw hP hD hS => ?_)
        try dsimp only at hw
        subst hw
        refine lv_istore (pc := 36) (lv' := [(4, .int (nI ((fmN (t) (D))))), (0, .ref (ad 0)), (1, .int (zI (h))), (2, .int (zI (o))), (3, .int (zI (t)))]) hx hb dX0_turn_36 hl (by decide) rfl (fun ls hl => ?_)
        refine lv_aload_n (pc := 38) hx hb dX0_turn_38 rfl (lv_at hl 1 rfl) ?_
        refine va_get (pc := 39) (D := dd) (ci := 0) (v := .ref (ad 6)) (C := RX0) (T := TX0) (N := 12) hx hb hts hin hown hK hP 0 rfl rfl 5 (by decide) (hts (.fieldLink RX0 27 "TurningSums" "work" "[J") (by decide +kernel)) (fun _ h9 => h9) rfl dX0_turn_39 ?_
        refine lv_lconst (pc := 42) (v := zL 0) hx hb dX0_turn_42 (by decide) ?_
        refine CTv_Sp (pc := 43) am_no_ok (As := [.ref (ad 6), .long (zL 0)]) (rest := []) ⟨hx, hb, hml, hown, hts⟩ (c_J7_fill_d0a16 l dd (by decide)) (va_cwS 2 hts gX0_turn_J7_fill_d0a16 rfl rfl rfl (by decide +kernel) ⟨Nat.le_of_ble_eq_true rfl, Nat.le_of_ble_eq_true rfl⟩) hK hP hD hS hA trivial [6] [0, 1, 2, 3, 4, 5, 7, 8, 9, 10, 11, 12, 13, 14] rfl rfl rfl rfl (by decide) rfl hl.1 rfl (Nat.le_of_ble_eq_true rfl) ⟨Nat.zero_le _, Nat.zero_le _⟩ dX0_turn_43 (fun u H locs hw hP hD hS => ?_)
        try dsimp only at hw
        subst hw
        have hP : va_P dd vwCl (wC ad cI cL cQ (ix) (pw) (sg) (tm) (hd) ((fun k => if k < 12 then zL 0 else (wk) k)) (rc) (lc) (P) ((rootN P)) (D) ((phN D))) H := hP.sub [0, 1, 2, 3, 4, 5, 14, 6, 7, 8, 9, 10, 11, 12, 13] rfl
        have hD : va_D A (wC ad cI cL cQ (ix) (pw) (sg) (tm) (hd) ((fun k => if k < 12 then zL 0 else (wk) k)) (rc) (lc) (P) ((rootN P)) (D) ((phN D))) := hD.sub [0, 1, 2, 3, 4, 5, 14, 6, 7, 8, 9, 10, 11, 12, 13] (by decide) rfl
        refine nv_iconst (pc := 46) (k := 0) hx hb dX0_turn_46 rfl ?_
        refine lv_istore (pc := 47) (lv' := [(5, .int (nI (0))), (4, .int (nI ((fmN (t) (D))))), (0, .ref (ad 0)), (1, .int (zI (h))), (2, .int (zI (o))), (3, .int (zI (t)))]) hx hb dX0_turn_47 hl (by decide) rfl (fun ls hl => ?_)
        have L49 : ∀ (n9_49 : Nat), ∀ (i : Nat) (w2 : Nat → Int64), phN D + 1 - i < n9_49 → (i ≤ phN D) → (∀ j, j < phN D → Lf D j w2 D = tnV D (hlV hv o.toNat) t i j) → ∀ (H : Heap) (locs : List Loc) (ls : Array Slot), va_P dd vwCl (wC ad cI cL cQ (ix) (pw) (sg) (tm) (hd) (w2) (rc) (lc) (P) ((rootN P)) (D) ((phN D))) H → va_D A (wC ad cI cL cQ (ix) (pw) (sg) (tm) (hd) (w2) (rc) (lc) (P) ((rootN P)) (D) ((phN D))) → va_S A s.heap H locs → lv_has ls 6 [(0, .ref (ad 0)), (1, .int (zI (h))), (2, .int (zI (o))), (3, .int (zI (t))), (4, .int (nI ((fmN (t) (D))))), (5, .int (nI (i)))] → W p l e ({ frames := 2, cells := 0, slots := 0, locals := 44 } : Room) s m args below meth c H locs 0 0 Q (F0 m 49 ls []) := by
          intro n9_49
          induction n9_49 with
          | zero => intro i w2 hm; exact absurd hm (Nat.not_lt_zero _)
          | succ n9_49 ih_49 =>
            intro i w2 hm_49 hi hL2 H locs ls hP hD hS hl
            have hkm := Nat.mul_le_mul (show i ≤ 12 by omega) (show fmN t D ≤ 12 by omega)
            have hm := Nat.mod_lt (i * fmN t D) (show 0 < D by omega)
            refine lv_iload (pc := 49) hx hb dX0_turn_49 (lv_at hl 5 rfl) ?_
            refine lv_aload_n (pc := 51) hx hb dX0_turn_51 rfl (lv_at hl 0 rfl) ?_
            refine va_get (pc := 52) (D := dd) (ci := 0) (v := .int (nI ((phN D)))) (C := RX0) (T := TX0) (N := 12) hx hb hts hin hown hK hP 0 rfl rfl 11 (by decide) (hts (.fieldLink RX0 55 "TurningSums" "phi" "I") (by decide +kernel)) (fun _ h9 => h9) rfl dX0_turn_52 ?_
            refine nv_icmp_ge (pc := 55) (tgt := 92) hx hb (a := i) (b := (phN D)) (by omega) (by omega) dX0_turn_55 (by decide) (fun h55 => ?_) (fun h55 => ?_)
            · skip
              refine lv_aload_n (pc := 92) hx hb dX0_turn_92 rfl (lv_at hl 0 rfl) ?_
              refine lv_iload_n (pc := 93) hx hb dX0_turn_93 rfl (lv_at hl 1 rfl) ?_
              refine tq_i (pc := 94) (y := nI ((h).toNat)) (zI_toNat (by omega)) ?_
              refine CTi_Vw (pc := 94) (rX_ok tR) (As := [.int (nI ((h).toNat))]) (rest := []) ⟨hx, hb, hml, hown, hts⟩ (c_X0_store l dd (fun j => tnV D (hlV hv o.toNat) t (phN D) j) hD1 (by omega) (fun j z => (hL2 j z).trans (by rw [show i = phN D by omega])) hH) (cwV 1 hts gX0_turn_X0_store rfl rfl rfl (by decide +kernel) ⟨Nat.le_of_ble_eq_true rfl, Nat.le_of_ble_eq_true rfl⟩) hK hP hD hS hA hX hK 0 0 rfl rfl rfl rfl hl.1 rfl (Nat.le_of_ble_eq_true rfl) ⟨Nat.zero_le _, Nat.zero_le _⟩ dX0_turn_94 (fun r u H locs hw hP hD hS => ?_)
              try dsimp only at hw
              obtain ⟨wk94, hd94, e9⟩ : ∃ z z2, (z, z2) = u := ⟨_, _, rfl⟩
              rw [← e9] at hw hP hD
              have hw94 := hw
              have hP : va_P dd vwCl (wC ad cI cL cQ (ix) (pw) (sg) (tm) (hd94) (wk94) (rc) (lc) (P) ((rootN P)) (D) ((phN D))) H := hP
              have hD : va_D A (wC ad cI cL cQ (ix) (pw) (sg) (tm) (hd94) (wk94) (rc) (lc) (P) ((rootN P)) (D) ((phN D))) := hD
              exact hret _ _ _ _ _ (wk94, hd94) (Or.inr (Or.inr ⟨by omega, by simpa using h22, hw94⟩)) hP hD hS dX0_turn_97
            · skip
              refine lv_aload_n (pc := 58) hx hb dX0_turn_58 rfl (lv_at hl 0 rfl) ?_
              refine va_get (pc := 59) (D := dd) (ci := 0) (v := .ref (ad 6)) (C := RX0) (T := TX0) (N := 12) hx hb hts hin hown hK hP 0 rfl rfl 5 (by decide) (hts (.fieldLink RX0 27 "TurningSums" "work" "[J") (by decide +kernel)) (fun _ h9 => h9) rfl dX0_turn_59 ?_
              refine lv_iload (pc := 62) hx hb dX0_turn_62 (lv_at hl 5 rfl) ?_
              refine lv_iload (pc := 64) hx hb dX0_turn_64 (lv_at hl 4 rfl) ?_
              refine nv_imul (pc := 66) hx hb dX0_turn_66 ?_
              refine lv_aload_n (pc := 67) hx hb dX0_turn_67 rfl (lv_at hl 0 rfl) ?_
              refine va_get (pc := 68) (D := dd) (ci := 0) (v := .int (nI (D))) (C := RX0) (T := TX0) (N := 12) hx hb hts hin hown hK hP 0 rfl rfl 10 (by decide) (hts (.fieldLink RX0 74 "TurningSums" "d" "I") (by decide +kernel)) (fun _ h9 => h9) rfl dX0_turn_68 ?_
              refine nv_irem (pc := 71) hx hb (by omega) (by omega) (by omega) dX0_turn_71 ?_
              refine lv_dup2_11 (pc := 72) hx hb dX0_turn_72 rfl rfl ?_
              refine nv_lald (pc := 73) hx hb hK hP 6 1 rfl rfl (i := ((i * (fmN (t) (D))) % D)) (by omega) (by decide) (v := (w2) (((i * (fmN (t) (D))) % D))) (rfl) dX0_turn_73 ?_
              refine lv_aload_n (pc := 74) hx hb dX0_turn_74 rfl (lv_at hl 0 rfl) ?_
              refine va_get (pc := 75) (D := dd) (ci := 0) (v := .ref (ad 5)) (C := RX0) (T := TX0) (N := 12) hx hb hts hin hown hK hP 0 rfl rfl 4 (by decide) (hts (.fieldLink RX0 24 "TurningSums" "holds" "[[I") (by decide +kernel)) (fun _ h9 => h9) rfl dX0_turn_75 ?_
              refine lv_iload_n (pc := 78) hx hb dX0_turn_78 rfl (lv_at hl 2 rfl) ?_
              refine tq_i (y := nI ((o).toNat)) (zI_toNat (by omega)) ?_
              refine nv_aald (pc := 79) hx hb hK hP 5 2 rfl rfl (i := (o).toNat) (by omega) (by decide) (if_pos (by omega)) dX0_turn_79 ?_
              refine lv_iload (pc := 80) hx hb dX0_turn_80 (lv_at hl 5 rfl) ?_
              refine nv_iald (pc := 82) hx hb hK hP (9 + ((o).toNat)) 0 (hd_get (by omega)) rfl (i := i) (by omega) (by decide) (v := ((hv o.toNat i))) (hH _ (by omega) _ (by omega)) dX0_turn_82 ?_
              refine lv_i2l (pc := 83) (v := (((hv o.toNat i))).toInt64) hx hb dX0_turn_83 (rfl) ?_
              refine lv_ladd (pc := 84) hx hb dX0_turn_84 ?_
              refine nv_last (pc := 85) hx hb hK hP hD hS 6 1 rfl rfl (by omega) (by decide) (ws' := (wC ad cI cL cQ (ix) (pw) (sg) (tm) (hd) ((vp_updL (w2) (((i * (fmN (t) (D))) % D)) (((w2) (((i * (fmN (t) (D))) % D)) + (((hv o.toNat i))).toInt64)))) (rc) (lc) (P) ((rootN P)) (D) ((phN D)))) rfl dX0_turn_85 (fun H locs hP hD hS => ?_)
              refine lv_iinc (pc := 86) (v := nI ((i + 1))) (lv' := [(5, .int (nI ((i + 1)))), (0, .ref (ad 0)), (1, .int (zI (h))), (2, .int (zI (o))), (3, .int (zI (t))), (4, .int (nI ((fmN (t) (D)))))]) hx hb dX0_turn_86 hl (k := 5) rfl (nI_inc _) (by decide) rfl (fun ls hl => ?_)
              refine lv_goto (pc := 89) (tgt := 49) hx hb dX0_turn_89 (by decide) ?_
              exact ih_49 ((i + 1)) ((vp_updL (w2) (((i * (fmN (t) (D))) % D)) (((w2) (((i * (fmN (t) (D))) % D)) + (((hv o.toNat i))).toInt64)))) (by omega) (by omega) (fun j z => by rw [Lf_add (by omega), hL2 j z, fm_one (by omega)]; rfl) _ _ _ hP hD hS (lv_sub hl [1, 2, 3, 4, 5, 0] rfl)
        exact L49 _ (0) ((fun k => if k < 12 then zL 0 else (wk) k)) (Nat.lt_succ_self _) (by omega) (fun j z => Lf_zero (fun m a => if_pos (by omega))) _ _ _ hP hD hS (lv_sub hl [2, 3, 4, 5, 1, 0] rfl)
      · skip
        refine lv_bipush (pc := 25) (v := zI (-3)) hx hb dX0_turn_25 (by decide) ?_
        exact hret _ _ _ _ _ (wk, hd) (Or.inr (Or.inl ⟨by omega, h22, rfl, rfl⟩)) hP hD hS dX0_turn_27
    · skip
      refine lv_bipush (pc := 14) (v := zI (-2)) hx hb dX0_turn_14 (by decide) ?_
      exact hret _ _ _ _ _ (wk, hd) (Or.inl ⟨by omega, rfl, rfl⟩) hP hD hS dX0_turn_16
set_option maxHeartbeats 4000000 in
set_option maxRecDepth 100000 in
theorem c_X0_size (l : Launch) (dd : va_G) {ad : Nat → Nat} {cI cL cQ : ClassId} {tR : Nat} {hv : Nat → Nat → Int32} {ix : Nat → Int32} {pw : Nat → Int32} {sg : Nat → Int32} {tm : Nat → Int32} {hd : Nat → Nat → Int32} {wk : Nat → Int64} {rc : Nat → Int64} {lc : Nat → Int64} {P : Nat} {D : Nat} {h : Int} (hhr : -2147483648 ≤ h ∧ h < 2147483648) (hP1 : okP P) (hD1 : 1 ≤ D ∧ D ≤ 12) (hH : okH D hv hd) : CTl l yX0_size wsX0_size ({ frames := 2, cells := 0, slots := 0, locals := 49 } : Room) dd (tysA cI cL cQ) (rX tR) [.ref (ad 0), .int (zI (h))] (wC ad cI cL cQ (ix) (pw) (sg) (tm) (hd) (wk) (rc) (lc) (P) ((rootN P)) (D) ((phN D))) (fun (r : Int64) (u : Nat → Int64) => (¬ (0 ≤ h ∧ h < 6) ∧ r = zL (-9223372036854775808)) ∨ ((0 ≤ h ∧ h < 6) ∧ (∃ j, 1 ≤ j ∧ j < phN D ∧ (fun j => mlV D (hlV hv h.toNat) (hlV hv h.toNat) (D - 1) (phN D) j) j ≠ 0) ∧ r = zL (-9223372036854775808)) ∨ ((0 ≤ h ∧ h < 6) ∧ (∀ j, 1 ≤ j → j < phN D → (fun j => mlV D (hlV hv h.toNat) (hlV hv h.toNat) (D - 1) (phN D) j) j = 0) ∧ r = (fun j => mlV D (hlV hv h.toNat) (hlV hv h.toNat) (D - 1) (phN D) j) 0)) (fun (u : Nat → Int64) => (wC ad cI cL cQ (ix) (pw) (sg) (tm) (hd) (u) (rc) (lc) (P) ((rootN P)) (D) ((phN D)))) := by
  refine CTl_of (cc := cX0_size) (maxL := 3) (by decide +kernel) rfl (Nat.le_of_ble_eq_true rfl) ?_
  intro p e s m args below meth c A Q ls H locs hx hb hts hown hml hP hK hD hS hA hX hl hret
  have hin : ∀ w ∈ wsX00, w ∈ wsX0_size := by decide +kernel
  have hl : lv_has ls 3 [(0, .ref (ad 0)), (1, .int (zI (h)))] := hl
  obtain ⟨o1, o2, o3, o4, o5, o6⟩ := id hP1
  have hph := ph_rng D (by omega) hD1.1
  refine lv_iload_n (pc := 0) hx hb dX0_size_0 rfl (lv_at hl 1 rfl) ?_
  refine CTi_S0 (pc := 1) am_no_ok (As := [.int (zI (h))]) (rest := []) ⟨hx, hb, hml, hown, hts⟩ (c_X0_isHold l dd (by omega)) (va_cwS 1 hts gX0_size_X0_isHold rfl rfl rfl (by decide +kernel) ⟨Nat.le_of_ble_eq_true rfl, Nat.le_of_ble_eq_true rfl⟩) hK hP hD hS hA trivial rfl hl.1 rfl (Nat.le_of_ble_eq_true rfl) ⟨Nat.zero_le _, Nat.zero_le _⟩ dX0_size_1 (fun r u H locs hw hP hD hS => ?_)
  try dsimp only at hw
  subst hw
  refine bv_if_ne (pc := 4) (tgt := 11) hx hb dX0_size_4 (by decide) (fun h4 => ?_) (fun h4 => ?_)
  · skip
    refine lv_aload_n (pc := 11) hx hb dX0_size_11 rfl (lv_at hl 0 rfl) ?_
    refine lv_aload_n (pc := 12) hx hb dX0_size_12 rfl (lv_at hl 0 rfl) ?_
    refine va_get (pc := 13) (D := dd) (ci := 0) (v := .ref (ad 5)) (C := RX0) (T := TX0) (N := 12) hx hb hts hin hown hK hP 0 rfl rfl 4 (by decide) (hts (.fieldLink RX0 24 "TurningSums" "holds" "[[I") (by decide +kernel)) (fun _ h9 => h9) rfl dX0_size_13 ?_
    refine lv_iload_n (pc := 16) hx hb dX0_size_16 rfl (lv_at hl 1 rfl) ?_
    refine tq_i (y := nI ((h).toNat)) (zI_toNat (by omega)) ?_
    refine nv_aald (pc := 17) hx hb hK hP 5 2 rfl rfl (i := (h).toNat) (by omega) (by decide) (if_pos (by omega)) dX0_size_17 ?_
    refine lv_aload_n (pc := 18) hx hb dX0_size_18 rfl (lv_at hl 0 rfl) ?_
    refine va_get (pc := 19) (D := dd) (ci := 0) (v := .ref (ad 5)) (C := RX0) (T := TX0) (N := 12) hx hb hts hin hown hK hP 0 rfl rfl 4 (by decide) (hts (.fieldLink RX0 24 "TurningSums" "holds" "[[I") (by decide +kernel)) (fun _ h9 => h9) rfl dX0_size_19 ?_
    refine lv_iload_n (pc := 22) hx hb dX0_size_22 rfl (lv_at hl 1 rfl) ?_
    refine tq_i (y := nI ((h).toNat)) (zI_toNat (by omega)) ?_
    refine nv_aald (pc := 23) hx hb hK hP 5 2 rfl rfl (i := (h).toNat) (by omega) (by decide) (if_pos (by omega)) dX0_size_23 ?_
    refine lv_aload_n (pc := 24) hx hb dX0_size_24 rfl (lv_at hl 0 rfl) ?_
    refine va_get (pc := 25) (D := dd) (ci := 0) (v := .int (nI (D))) (C := RX0) (T := TX0) (N := 12) hx hb hts hin hown hK hP 0 rfl rfl 10 (by decide) (hts (.fieldLink RX0 74 "TurningSums" "d" "I") (by decide +kernel)) (fun _ h9 => h9) rfl dX0_size_25 ?_
    refine nv_iconst (pc := 28) (k := 1) hx hb dX0_size_28 rfl ?_
    refine nv_isub (pc := 29) hx hb (by omega) dX0_size_29 ?_
    refine CTv_Vw (pc := 30) (rX_ok tR) (As := [.ref (ad (9 + ((h).toNat))), .ref (ad (9 + ((h).toNat))), .int (nI ((D - 1)))]) (rest := []) ⟨hx, hb, hml, hown, hts⟩ (c_X0_multiply l dd hD1 (by omega) (by omega) (by omega) hH) (cwV 3 hts gX0_size_X0_multiply rfl rfl rfl (by decide +kernel) ⟨Nat.le_of_ble_eq_true rfl, Nat.le_of_ble_eq_true rfl⟩) hK hP hD hS hA hX hK 0 0 rfl rfl rfl rfl hl.1 rfl (Nat.le_of_ble_eq_true rfl) ⟨Nat.zero_le _, Nat.zero_le _⟩ dX0_size_30 (fun u H locs hw hP hD hS => ?_)
    try dsimp only at hw
    obtain ⟨wk30, e9⟩ : ∃ z, z = u := ⟨_, rfl⟩
    rw [← e9] at hw hP hD
    have hw30 := hw
    have hP : va_P dd vwCl (wC ad cI cL cQ (ix) (pw) (sg) (tm) (hd) (wk30) (rc) (lc) (P) ((rootN P)) (D) ((phN D))) H := hP
    have hD : va_D A (wC ad cI cL cQ (ix) (pw) (sg) (tm) (hd) (wk30) (rc) (lc) (P) ((rootN P)) (D) ((phN D))) := hD
    refine lv_aload_n (pc := 33) hx hb dX0_size_33 rfl (lv_at hl 0 rfl) ?_
    refine CTv_Vw (pc := 34) (rX_ok tR) (As := []) (rest := []) ⟨hx, hb, hml, hown, hts⟩ (c_X0_reduce l dd hD1) (cwV 0 hts gX0_size_X0_reduce rfl rfl rfl (by decide +kernel) ⟨Nat.le_of_ble_eq_true rfl, Nat.le_of_ble_eq_true rfl⟩) hK hP hD hS hA hX hK 0 0 rfl rfl rfl rfl hl.1 rfl (Nat.le_of_ble_eq_true rfl) ⟨Nat.zero_le _, Nat.zero_le _⟩ dX0_size_34 (fun u H locs hw hP hD hS => ?_)
    try dsimp only at hw
    obtain ⟨wk34, e9⟩ : ∃ z, z = u := ⟨_, rfl⟩
    rw [← e9] at hw hP hD
    have hw34 := hw
    have hP : va_P dd vwCl (wC ad cI cL cQ (ix) (pw) (sg) (tm) (hd) (wk34) (rc) (lc) (P) ((rootN P)) (D) ((phN D))) H := hP
    have hD : va_D A (wC ad cI cL cQ (ix) (pw) (sg) (tm) (hd) (wk34) (rc) (lc) (P) ((rootN P)) (D) ((phN D))) := hD
    refine nv_iconst (pc := 37) (k := 1) hx hb dX0_size_37 rfl ?_
    refine lv_istore_n (pc := 38) (lv' := [(2, .int (nI (1))), (0, .ref (ad 0)), (1, .int (zI (h)))]) hx hb dX0_size_38 rfl hl (by decide) rfl (fun ls hl => ?_)
    have hvw : ∀ j, j < phN D → wk34 j = (fun j => mlV D (hlV hv h.toNat) (hlV hv h.toNat) (D - 1) (phN D) j) j := fun j z => (hw34 j z).trans (hw30 j z)
    have L39 : ∀ (n9_39 : Nat), ∀ (i : Nat), phN D + 1 - i < n9_39 → (1 ≤ i ∧ (i ≤ phN D ∨ i = 1)) → (∀ q, 1 ≤ q → q < i → (fun j => mlV D (hlV hv h.toNat) (hlV hv h.toNat) (D - 1) (phN D) j) q = 0) → ∀ (H : Heap) (locs : List Loc) (ls : Array Slot), va_P dd vwCl (wC ad cI cL cQ (ix) (pw) (sg) (tm) (hd) (wk34) (rc) (lc) (P) ((rootN P)) (D) ((phN D))) H → va_D A (wC ad cI cL cQ (ix) (pw) (sg) (tm) (hd) (wk34) (rc) (lc) (P) ((rootN P)) (D) ((phN D))) → va_S A s.heap H locs → lv_has ls 3 [(0, .ref (ad 0)), (1, .int (zI (h))), (2, .int (nI (i)))] → W p l e ({ frames := 2, cells := 0, slots := 0, locals := 49 } : Room) s m args below meth c H locs 0 0 Q (F0 m 39 ls []) := by
      intro n9_39
      induction n9_39 with
      | zero => intro i hm; exact absurd hm (Nat.not_lt_zero _)
      | succ n9_39 ih_39 =>
        intro i hm_39 hi hz9 H locs ls hP hD hS hl
        refine lv_iload_n (pc := 39) hx hb dX0_size_39 rfl (lv_at hl 2 rfl) ?_
        refine lv_aload_n (pc := 40) hx hb dX0_size_40 rfl (lv_at hl 0 rfl) ?_
        refine va_get (pc := 41) (D := dd) (ci := 0) (v := .int (nI ((phN D)))) (C := RX0) (T := TX0) (N := 12) hx hb hts hin hown hK hP 0 rfl rfl 11 (by decide) (hts (.fieldLink RX0 55 "TurningSums" "phi" "I") (by decide +kernel)) (fun _ h9 => h9) rfl dX0_size_41 ?_
        refine nv_icmp_ge (pc := 44) (tgt := 68) hx hb (a := i) (b := (phN D)) (by omega) (by omega) dX0_size_44 (by decide) (fun h44 => ?_) (fun h44 => ?_)
        · skip
          refine lv_aload_n (pc := 68) hx hb dX0_size_68 rfl (lv_at hl 0 rfl) ?_
          refine va_get (pc := 69) (D := dd) (ci := 0) (v := .ref (ad 6)) (C := RX0) (T := TX0) (N := 12) hx hb hts hin hown hK hP 0 rfl rfl 5 (by decide) (hts (.fieldLink RX0 27 "TurningSums" "work" "[J") (by decide +kernel)) (fun _ h9 => h9) rfl dX0_size_69 ?_
          refine nv_iconst (pc := 72) (k := 0) hx hb dX0_size_72 rfl ?_
          refine nv_lald (pc := 73) hx hb hK hP 6 1 rfl rfl (i := 0) (by omega) (by decide) (v := ((fun j => mlV D (hlV hv h.toNat) (hlV hv h.toNat) (D - 1) (phN D) j) 0)) (hvw _ (by omega)) dX0_size_73 ?_
          exact hret _ _ _ _ _ (wk34) (Or.inr (Or.inr ⟨h4, fun j z w => hz9 j z (by omega), rfl⟩)) hP hD hS dX0_size_74
        · skip
          refine lv_aload_n (pc := 47) hx hb dX0_size_47 rfl (lv_at hl 0 rfl) ?_
          refine va_get (pc := 48) (D := dd) (ci := 0) (v := .ref (ad 6)) (C := RX0) (T := TX0) (N := 12) hx hb hts hin hown hK hP 0 rfl rfl 5 (by decide) (hts (.fieldLink RX0 27 "TurningSums" "work" "[J") (by decide +kernel)) (fun _ h9 => h9) rfl dX0_size_48 ?_
          refine lv_iload_n (pc := 51) hx hb dX0_size_51 rfl (lv_at hl 2 rfl) ?_
          refine nv_lald (pc := 52) hx hb hK hP 6 1 rfl rfl (i := i) (by omega) (by decide) (v := ((fun j => mlV D (hlV hv h.toNat) (hlV hv h.toNat) (D - 1) (phN D) j) i)) (hvw _ (by omega)) dX0_size_52 ?_
          refine lv_lconst (pc := 53) (v := zL 0) hx hb dX0_size_53 (by decide) ?_
          refine W.lcmp (pc := 54) hx hb dX0_size_54 ?_
          refine cv_if_eq (pc := 55) (tgt := 62) hx hb dX0_size_55 (by decide) (fun h55 => ?_) (fun h55 => ?_)
          · skip
            refine lv_iinc (pc := 62) (v := nI ((i + 1))) (lv' := [(2, .int (nI ((i + 1)))), (0, .ref (ad 0)), (1, .int (zI (h)))]) hx hb dX0_size_62 hl (k := 2) rfl (nI_inc _) (by decide) rfl (fun ls hl => ?_)
            refine lv_goto (pc := 65) (tgt := 39) hx hb dX0_size_65 (by decide) ?_
            exact ih_39 ((i + 1)) (by omega) (by omega) (fun q z w => (Nat.lt_or_ge q i).elim (fun y => hz9 q z y) (fun y => by have e : q = i := (by omega); subst e; exact h55)) _ _ _ hP hD hS (lv_sub hl [1, 2, 0] rfl)
          · skip
            refine tq_ldc2 (pc := 58) (k := (-9223372036854775808)) hx hb hown (hts (.constantLong RX0 97 (-9223372036854775808)) (by decide +kernel)) dX0_size_58 ?_
            exact hret _ _ _ _ _ (wk34) (Or.inr (Or.inl ⟨h4, ⟨i, hi.1, by omega, h55⟩, rfl⟩)) hP hD hS dX0_size_61
    exact L39 _ (1) (Nat.lt_succ_self _) (by omega) (fun q z w => by omega) _ _ _ hP hD hS (lv_sub hl [1, 2, 0] rfl)
  · skip
    refine tq_ldc2 (pc := 7) (k := (-9223372036854775808)) hx hb hown (hts (.constantLong RX0 97 (-9223372036854775808)) (by decide +kernel)) dX0_size_7 ?_
    exact hret _ _ _ _ _ (wk) (Or.inl ⟨h4, rfl⟩) hP hD hS dX0_size_10
end
