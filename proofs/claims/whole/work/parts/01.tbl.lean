-- ===== PART A: goes FIRST, ahead of the names: the tables' words, and 'selects' of the private methods out of them =====
/-- a private method of a class that the tables say can be made, by its rows of tables_1 -/
def lw_okq (q : MethodName × Nat) : Prop := (q.1.cls ≠ "java/lang/invoke/MethodHandle" ∧ q.1.cls ≠ "java/lang/invoke/VarHandle") ∧ Cond.instantiable q.1.cls q.2 ∈ tables_1 ∧ Cond.privateMethod q.1 ∈ tables_1 ∧ Cond.instanceMethod q.1 ∈ tables_1
theorem lw_p0 : lw_okq (⟨"TurningSums", "setPrime", "(I)V"⟩, 12) := ⟨⟨by decide +kernel, by decide +kernel⟩, List.mem_of_getElem? (i := 7) (by decide +kernel), List.mem_of_getElem? (i := 17) (by decide +kernel), List.mem_of_getElem? (i := 18) (by decide +kernel)⟩
theorem lw_p1 : lw_okq (⟨"TurningSums", "leastRoot", "()I"⟩, 12) := ⟨⟨by decide +kernel, by decide +kernel⟩, List.mem_of_getElem? (i := 7) (by decide +kernel), List.mem_of_getElem? (i := 21) (by decide +kernel), List.mem_of_getElem? (i := 22) (by decide +kernel)⟩
theorem lw_p2 : lw_okq (⟨"TurningSums", "hasAllPowers", "(I)Z"⟩, 12) := ⟨⟨by decide +kernel, by decide +kernel⟩, List.mem_of_getElem? (i := 7) (by decide +kernel), List.mem_of_getElem? (i := 25) (by decide +kernel), List.mem_of_getElem? (i := 26) (by decide +kernel)⟩
theorem lw_p3 : lw_okq (⟨"TurningSums", "setDegree", "(I)V"⟩, 12) := ⟨⟨by decide +kernel, by decide +kernel⟩, List.mem_of_getElem? (i := 7) (by decide +kernel), List.mem_of_getElem? (i := 29) (by decide +kernel), List.mem_of_getElem? (i := 30) (by decide +kernel)⟩
theorem lw_p4 : lw_okq (⟨"TurningSums", "sharesDivisor", "(I)Z"⟩, 12) := ⟨⟨by decide +kernel, by decide +kernel⟩, List.mem_of_getElem? (i := 7) (by decide +kernel), List.mem_of_getElem? (i := 33) (by decide +kernel), List.mem_of_getElem? (i := 34) (by decide +kernel)⟩
theorem lw_p5 : lw_okq (⟨"TurningSums", "classOf", "(I)I"⟩, 12) := ⟨⟨by decide +kernel, by decide +kernel⟩, List.mem_of_getElem? (i := 7) (by decide +kernel), List.mem_of_getElem? (i := 97) (by decide +kernel), List.mem_of_getElem? (i := 98) (by decide +kernel)⟩
theorem lw_p6 : lw_okq (⟨"TurningSums", "isClass", "(I)Z"⟩, 12) := ⟨⟨by decide +kernel, by decide +kernel⟩, List.mem_of_getElem? (i := 7) (by decide +kernel), List.mem_of_getElem? (i := 105) (by decide +kernel), List.mem_of_getElem? (i := 106) (by decide +kernel)⟩
theorem lw_p7 : lw_okq (⟨"TurningSums", "store", "(I)I"⟩, 12) := ⟨⟨by decide +kernel, by decide +kernel⟩, List.mem_of_getElem? (i := 7) (by decide +kernel), List.mem_of_getElem? (i := 119) (by decide +kernel), List.mem_of_getElem? (i := 120) (by decide +kernel)⟩
theorem lw_p8 : lw_okq (⟨"TurningSums", "reduce", "()V"⟩, 12) := ⟨⟨by decide +kernel, by decide +kernel⟩, List.mem_of_getElem? (i := 7) (by decide +kernel), List.mem_of_getElem? (i := 123) (by decide +kernel), List.mem_of_getElem? (i := 124) (by decide +kernel)⟩
theorem lw_p9 : lw_okq (⟨"TurningSums", "multiply", "([I[II)V"⟩, 12) := ⟨⟨by decide +kernel, by decide +kernel⟩, List.mem_of_getElem? (i := 7) (by decide +kernel), List.mem_of_getElem? (i := 139) (by decide +kernel), List.mem_of_getElem? (i := 140) (by decide +kernel)⟩
theorem lw_p10 : lw_okq (⟨"TurningSums", "add", "([I[II)V"⟩, 12) := ⟨⟨by decide +kernel, by decide +kernel⟩, List.mem_of_getElem? (i := 7) (by decide +kernel), List.mem_of_getElem? (i := 143) (by decide +kernel), List.mem_of_getElem? (i := 144) (by decide +kernel)⟩
theorem lw_p11 : lw_okq (⟨"TurningSums", "likePower", "(I)I"⟩, 12) := ⟨⟨by decide +kernel, by decide +kernel⟩, List.mem_of_getElem? (i := 7) (by decide +kernel), List.mem_of_getElem? (i := 169) (by decide +kernel), List.mem_of_getElem? (i := 170) (by decide +kernel)⟩
theorem lw_p12 : lw_okq (⟨"TurningSums", "lengthened", "(JI)J"⟩, 12) := ⟨⟨by decide +kernel, by decide +kernel⟩, List.mem_of_getElem? (i := 7) (by decide +kernel), List.mem_of_getElem? (i := 178) (by decide +kernel), List.mem_of_getElem? (i := 179) (by decide +kernel)⟩
theorem lw_p13 : lw_okq (⟨"TurningSums", "isSet", "(I)Z"⟩, 12) := ⟨⟨by decide +kernel, by decide +kernel⟩, List.mem_of_getElem? (i := 7) (by decide +kernel), List.mem_of_getElem? (i := 189) (by decide +kernel), List.mem_of_getElem? (i := 190) (by decide +kernel)⟩
theorem lw_p14 : lw_okq (⟨"TurningSums", "fillSigns", "(II)V"⟩, 12) := ⟨⟨by decide +kernel, by decide +kernel⟩, List.mem_of_getElem? (i := 7) (by decide +kernel), List.mem_of_getElem? (i := 196) (by decide +kernel), List.mem_of_getElem? (i := 197) (by decide +kernel)⟩
theorem lw_p15 : lw_okq (⟨"TurningSums", "agreement", "(I)I"⟩, 12) := ⟨⟨by decide +kernel, by decide +kernel⟩, List.mem_of_getElem? (i := 7) (by decide +kernel), List.mem_of_getElem? (i := 200) (by decide +kernel), List.mem_of_getElem? (i := 201) (by decide +kernel)⟩
def lw_privs_1 : List (MethodName × Nat) := [(⟨"TurningSums", "setPrime", "(I)V"⟩, 12), (⟨"TurningSums", "leastRoot", "()I"⟩, 12), (⟨"TurningSums", "hasAllPowers", "(I)Z"⟩, 12), (⟨"TurningSums", "setDegree", "(I)V"⟩, 12), (⟨"TurningSums", "sharesDivisor", "(I)Z"⟩, 12), (⟨"TurningSums", "classOf", "(I)I"⟩, 12), (⟨"TurningSums", "isClass", "(I)Z"⟩, 12), (⟨"TurningSums", "store", "(I)I"⟩, 12), (⟨"TurningSums", "reduce", "()V"⟩, 12), (⟨"TurningSums", "multiply", "([I[II)V"⟩, 12), (⟨"TurningSums", "add", "([I[II)V"⟩, 12), (⟨"TurningSums", "likePower", "(I)I"⟩, 12), (⟨"TurningSums", "lengthened", "(JI)J"⟩, 12), (⟨"TurningSums", "isSet", "(I)Z"⟩, 12), (⟨"TurningSums", "fillSigns", "(II)V"⟩, 12), (⟨"TurningSums", "agreement", "(I)I"⟩, 12)]
theorem lw_r1 : ∀ q ∈ lw_privs_1, lw_okq q := List.forall_mem_cons.mpr ⟨lw_p0, List.forall_mem_cons.mpr ⟨lw_p1, List.forall_mem_cons.mpr ⟨lw_p2, List.forall_mem_cons.mpr ⟨lw_p3, List.forall_mem_cons.mpr ⟨lw_p4, List.forall_mem_cons.mpr ⟨lw_p5, List.forall_mem_cons.mpr ⟨lw_p6, List.forall_mem_cons.mpr ⟨lw_p7, List.forall_mem_cons.mpr ⟨lw_p8, List.forall_mem_cons.mpr ⟨lw_p9, List.forall_mem_cons.mpr ⟨lw_p10, List.forall_mem_cons.mpr ⟨lw_p11, List.forall_mem_cons.mpr ⟨lw_p12, List.forall_mem_cons.mpr ⟨lw_p13, List.forall_mem_cons.mpr ⟨lw_p14, List.forall_mem_cons.mpr ⟨lw_p15, fun _ h => absurd h List.not_mem_nil⟩⟩⟩⟩⟩⟩⟩⟩⟩⟩⟩⟩⟩⟩⟩⟩
theorem lw_p16 : lw_okq (⟨"TurningSums", "differences", "(I)I"⟩, 12) := ⟨⟨by decide +kernel, by decide +kernel⟩, List.mem_of_getElem? (i := 7) (by decide +kernel), List.mem_of_getElem? (i := 218) (by decide +kernel), List.mem_of_getElem? (i := 219) (by decide +kernel)⟩
theorem lw_p17 : lw_okq (⟨"TurningSums", "classNumberBySums", "()I"⟩, 12) := ⟨⟨by decide +kernel, by decide +kernel⟩, List.mem_of_getElem? (i := 7) (by decide +kernel), List.mem_of_getElem? (i := 226) (by decide +kernel), List.mem_of_getElem? (i := 227) (by decide +kernel)⟩
theorem lw_p18 : lw_okq (⟨"TurningSums", "classNumberByForms", "()I"⟩, 12) := ⟨⟨by decide +kernel, by decide +kernel⟩, List.mem_of_getElem? (i := 7) (by decide +kernel), List.mem_of_getElem? (i := 230) (by decide +kernel), List.mem_of_getElem? (i := 231) (by decide +kernel)⟩
theorem lw_p19 : lw_okq (⟨"TurningSums", "isForm", "(II)Z"⟩, 12) := ⟨⟨by decide +kernel, by decide +kernel⟩, List.mem_of_getElem? (i := 7) (by decide +kernel), List.mem_of_getElem? (i := 234) (by decide +kernel), List.mem_of_getElem? (i := 235) (by decide +kernel)⟩
theorem lw_p20 : lw_okq (⟨"TurningSumsModel", "begin", "(I)V"⟩, 11) := ⟨⟨by decide +kernel, by decide +kernel⟩, List.mem_of_getElem? (i := 242) (by decide +kernel), List.mem_of_getElem? (i := 248) (by decide +kernel), List.mem_of_getElem? (i := 249) (by decide +kernel)⟩
theorem lw_p21 : lw_okq (⟨"TurningSumsModel", "setDegree", "(I)V"⟩, 11) := ⟨⟨by decide +kernel, by decide +kernel⟩, List.mem_of_getElem? (i := 242) (by decide +kernel), List.mem_of_getElem? (i := 252) (by decide +kernel), List.mem_of_getElem? (i := 253) (by decide +kernel)⟩
theorem lw_p22 : lw_okq (⟨"TurningSumsModel", "classOf", "(I)I"⟩, 11) := ⟨⟨by decide +kernel, by decide +kernel⟩, List.mem_of_getElem? (i := 242) (by decide +kernel), List.mem_of_getElem? (i := 319) (by decide +kernel), List.mem_of_getElem? (i := 320) (by decide +kernel)⟩
theorem lw_p23 : lw_okq (⟨"TurningSumsModel", "empty", "()V"⟩, 11) := ⟨⟨by decide +kernel, by decide +kernel⟩, List.mem_of_getElem? (i := 242) (by decide +kernel), List.mem_of_getElem? (i := 331) (by decide +kernel), List.mem_of_getElem? (i := 332) (by decide +kernel)⟩
theorem lw_p24 : lw_okq (⟨"TurningSumsModel", "reduce", "()V"⟩, 11) := ⟨⟨by decide +kernel, by decide +kernel⟩, List.mem_of_getElem? (i := 242) (by decide +kernel), List.mem_of_getElem? (i := 335) (by decide +kernel), List.mem_of_getElem? (i := 336) (by decide +kernel)⟩
theorem lw_p25 : lw_okq (⟨"TurningSumsModel", "lay", "(I)I"⟩, 11) := ⟨⟨by decide +kernel, by decide +kernel⟩, List.mem_of_getElem? (i := 242) (by decide +kernel), List.mem_of_getElem? (i := 339) (by decide +kernel), List.mem_of_getElem? (i := 340) (by decide +kernel)⟩
theorem lw_p26 : lw_okq (⟨"TurningSumsModel", "times", "(I[JI)V"⟩, 11) := ⟨⟨by decide +kernel, by decide +kernel⟩, List.mem_of_getElem? (i := 242) (by decide +kernel), List.mem_of_getElem? (i := 356) (by decide +kernel), List.mem_of_getElem? (i := 357) (by decide +kernel)⟩
theorem lw_p27 : lw_okq (⟨"TurningSumsModel", "turnOver", "(II)V"⟩, 11) := ⟨⟨by decide +kernel, by decide +kernel⟩, List.mem_of_getElem? (i := 242) (by decide +kernel), List.mem_of_getElem? (i := 364) (by decide +kernel), List.mem_of_getElem? (i := 365) (by decide +kernel)⟩
theorem lw_p28 : lw_okq (⟨"TurningSumsModel", "power", "(I)I"⟩, 11) := ⟨⟨by decide +kernel, by decide +kernel⟩, List.mem_of_getElem? (i := 242) (by decide +kernel), List.mem_of_getElem? (i := 386) (by decide +kernel), List.mem_of_getElem? (i := 387) (by decide +kernel)⟩
theorem lw_p29 : lw_okq (⟨"TurningSumsModel", "isSet", "(I)Z"⟩, 11) := ⟨⟨by decide +kernel, by decide +kernel⟩, List.mem_of_getElem? (i := 242) (by decide +kernel), List.mem_of_getElem? (i := 400) (by decide +kernel), List.mem_of_getElem? (i := 401) (by decide +kernel)⟩
theorem lw_p30 : lw_okq (⟨"TurningSumsModel", "overOf", "(III)I"⟩, 11) := ⟨⟨by decide +kernel, by decide +kernel⟩, List.mem_of_getElem? (i := 242) (by decide +kernel), List.mem_of_getElem? (i := 407) (by decide +kernel), List.mem_of_getElem? (i := 408) (by decide +kernel)⟩
theorem lw_p31 : lw_okq (⟨"TurningSumsModel", "signOf", "(III)I"⟩, 11) := ⟨⟨by decide +kernel, by decide +kernel⟩, List.mem_of_getElem? (i := 242) (by decide +kernel), List.mem_of_getElem? (i := 411) (by decide +kernel), List.mem_of_getElem? (i := 412) (by decide +kernel)⟩
def lw_privs_2 : List (MethodName × Nat) := [(⟨"TurningSums", "differences", "(I)I"⟩, 12), (⟨"TurningSums", "classNumberBySums", "()I"⟩, 12), (⟨"TurningSums", "classNumberByForms", "()I"⟩, 12), (⟨"TurningSums", "isForm", "(II)Z"⟩, 12), (⟨"TurningSumsModel", "begin", "(I)V"⟩, 11), (⟨"TurningSumsModel", "setDegree", "(I)V"⟩, 11), (⟨"TurningSumsModel", "classOf", "(I)I"⟩, 11), (⟨"TurningSumsModel", "empty", "()V"⟩, 11), (⟨"TurningSumsModel", "reduce", "()V"⟩, 11), (⟨"TurningSumsModel", "lay", "(I)I"⟩, 11), (⟨"TurningSumsModel", "times", "(I[JI)V"⟩, 11), (⟨"TurningSumsModel", "turnOver", "(II)V"⟩, 11), (⟨"TurningSumsModel", "power", "(I)I"⟩, 11), (⟨"TurningSumsModel", "isSet", "(I)Z"⟩, 11), (⟨"TurningSumsModel", "overOf", "(III)I"⟩, 11), (⟨"TurningSumsModel", "signOf", "(III)I"⟩, 11)]
theorem lw_r2 : ∀ q ∈ lw_privs_2, lw_okq q := List.forall_mem_cons.mpr ⟨lw_p16, List.forall_mem_cons.mpr ⟨lw_p17, List.forall_mem_cons.mpr ⟨lw_p18, List.forall_mem_cons.mpr ⟨lw_p19, List.forall_mem_cons.mpr ⟨lw_p20, List.forall_mem_cons.mpr ⟨lw_p21, List.forall_mem_cons.mpr ⟨lw_p22, List.forall_mem_cons.mpr ⟨lw_p23, List.forall_mem_cons.mpr ⟨lw_p24, List.forall_mem_cons.mpr ⟨lw_p25, List.forall_mem_cons.mpr ⟨lw_p26, List.forall_mem_cons.mpr ⟨lw_p27, List.forall_mem_cons.mpr ⟨lw_p28, List.forall_mem_cons.mpr ⟨lw_p29, List.forall_mem_cons.mpr ⟨lw_p30, List.forall_mem_cons.mpr ⟨lw_p31, fun _ h => absurd h List.not_mem_nil⟩⟩⟩⟩⟩⟩⟩⟩⟩⟩⟩⟩⟩⟩⟩⟩
def lw_privs : List (MethodName × Nat) := lw_privs_1 ++ (lw_privs_2)
def lw_tbl : List Cond := k2_sels lw_privs ++ tables_1
theorem lw_privs_ok : ∀ q ∈ lw_privs, lw_okq q := by
  show ∀ q ∈ lw_privs_1 ++ (lw_privs_2), lw_okq q
  exact List.forall_mem_append.mpr ⟨lw_r1, lw_r2⟩
/-! arrays of arrays: the tables' word 'arrayOver' of an array type -/
def va_AOA (t : FieldType) (U : State) : Prop := (Cond.arrayOver (.array t)).before #[] U = true
theorem va_AOA.of {t : FieldType} {A : Array Value} {U : State} (h : (Cond.arrayOver (.array t)).before A U = true) : va_AOA t U := h
theorem va_AOA.use {t : FieldType} {A : Array Value} {U : State} (h : va_AOA t U) : (Cond.arrayOver (.array t)).before A U = true := h
/-! ===== BEGIN words of one list among another's, by their places ===== -/
theorem goodIn_r {big : List Cond} (ws : List Cond) (ps : List Nat) (hp : ws = ps.filterMap (fun i => big[i]?)) (h : ws.all goodWord = true) : GoodIn big ws := by
  intro w hw
  have h1 := List.all_eq_true.mp h w hw
  rw [hp] at hw
  obtain ⟨i, -, hi⟩ := List.mem_filterMap.mp hw
  have hm : w ∈ big := by first | exact List.mem_of_getElem? hi | exact List.getElem?_mem hi
  exact ⟨hm, good_of_word h1⟩
theorem goodIn_app {big a b : List Cond} (ha : GoodIn big a) (hb : GoodIn big b) : GoodIn big (a ++ b) := fun w h => (List.mem_append.mp h).elim (ha w) (hb w)
theorem goodIn_ca {big a b : List Cond} {c : Cond} (ha : GoodIn big (c :: a)) (hb : GoodIn big b) : GoodIn big (c :: (a ++ b)) := fun w h => (List.mem_cons.mp h).elim (fun e => ha w (List.mem_cons.mpr (Or.inl e))) (fun h => (List.mem_append.mp h).elim (fun h => ha w (List.mem_cons.mpr (Or.inr h))) (hb w))
theorem goodIn_sub {big ws : List Cond} (hm : ∀ w ∈ ws, w ∈ big) (h : ws.all goodWord = true) : GoodIn big ws := fun w hw => ⟨hm w hw, good_of_word (List.all_eq_true.mp h w hw)⟩
/-! ===== END ===== -/

/-! ===== BEGIN printed: names, fields, word lists, decode rows ===== -/
def RX0 : String := "TurningSums"
def TX0 : u_T := fun k => match k with
  | 0 => ("TurningSums", "indexOf", "[I", true)
  | 1 => ("TurningSums", "powerOf", "[I", true)
  | 2 => ("TurningSums", "signOf", "[I", true)
  | 3 => ("TurningSums", "timesOf", "[I", true)
  | 4 => ("TurningSums", "holds", "[[I", true)
  | 5 => ("TurningSums", "work", "[J", true)
  | 6 => ("TurningSums", "rowsOfClass", "[J", true)
  | 7 => ("TurningSums", "longerOfClass", "[J", true)
  | 8 => ("TurningSums", "p", "I", false)
  | 9 => ("TurningSums", "root", "I", false)
  | 10 => ("TurningSums", "d", "I", false)
  | _ => ("TurningSums", "phi", "I", false)
def tyX0 : Nat → FieldType := fun k => match k with
  | 0 => .array .int
  | 1 => .array .int
  | 2 => .array .int
  | 3 => .array .int
  | 4 => .array (.array .int)
  | 5 => .array .long
  | 6 => .array .long
  | 7 => .array .long
  | 8 => .int
  | 9 => .int
  | 10 => .int
  | _ => .int
abbrev wsX00 : List Cond := u_ws RX0 TX0 12
theorem nmX0 : ∀ a, a < 12 → ∀ b, b < 12 → a ≠ b → (TX0 a).2.1 ≠ (TX0 b).2.1 := by decide +kernel
theorem tyX0_ok : ∀ k, k < 12 → parseFieldDescriptor (TX0 k).2.2.1 = some (tyX0 k) := by decide +kernel
abbrev cX0_init : ByteArray := prog_1_method_1_code
def yX0_init : MethodName := ⟨RX0, "<init>", "()V"⟩
abbrev cX0_prime : ByteArray := prog_1_method_2_code
def yX0_prime : MethodName := ⟨RX0, "prime", "(I)I"⟩
abbrev cX0_degree : ByteArray := prog_1_method_3_code
def yX0_degree : MethodName := ⟨RX0, "degree", "(I)I"⟩
abbrev cX0_rest : ByteArray := prog_1_method_4_code
def yX0_rest : MethodName := ⟨RX0, "rest", "(II)I"⟩
abbrev cX0_meeting : ByteArray := prog_1_method_5_code
def yX0_meeting : MethodName := ⟨RX0, "meeting", "(II)I"⟩
abbrev cX0_sum : ByteArray := prog_1_method_6_code
def yX0_sum : MethodName := ⟨RX0, "sum", "(III)I"⟩
abbrev cX0_unit : ByteArray := prog_1_method_7_code
def yX0_unit : MethodName := ⟨RX0, "unit", "(III)I"⟩
abbrev cX0_join : ByteArray := prog_1_method_8_code
def yX0_join : MethodName := ⟨RX0, "join", "(IIII)I"⟩
abbrev cX0_turn : ByteArray := prog_1_method_9_code
def yX0_turn : MethodName := ⟨RX0, "turn", "(III)I"⟩
abbrev cX0_at : ByteArray := prog_1_method_10_code
def yX0_at : MethodName := ⟨RX0, "at", "(II)I"⟩
abbrev cX0_same : ByteArray := prog_1_method_11_code
def yX0_same : MethodName := ⟨RX0, "same", "(II)I"⟩
abbrev cX0_size : ByteArray := prog_1_method_12_code
def yX0_size : MethodName := ⟨RX0, "size", "(I)J"⟩
abbrev cX0_solutions : ByteArray := prog_1_method_13_code
def yX0_solutions : MethodName := ⟨RX0, "solutions", "(III)I"⟩
abbrev cX0_rows : ByteArray := prog_1_method_14_code
def yX0_rows : MethodName := ⟨RX0, "rows", "(I)J"⟩
abbrev cX0_over : ByteArray := prog_1_method_15_code
def yX0_over : MethodName := ⟨RX0, "over", "(III)I"⟩
abbrev cX0_peak : ByteArray := prog_1_method_16_code
def yX0_peak : MethodName := ⟨RX0, "peak", "(II)I"⟩
abbrev cX0_even : ByteArray := prog_1_method_17_code
def yX0_even : MethodName := ⟨RX0, "even", "(I)I"⟩
abbrev cX0_classes : ByteArray := prog_1_method_18_code
def yX0_classes : MethodName := ⟨RX0, "classes", "(I)I"⟩
abbrev cX0_count : ByteArray := prog_1_method_19_code
def yX0_count : MethodName := ⟨RX0, "count", "(I)I"⟩
abbrev cX0_setPrime : ByteArray := prog_1_method_20_code
def yX0_setPrime : MethodName := ⟨RX0, "setPrime", "(I)V"⟩
abbrev cX0_setDegree : ByteArray := prog_1_method_21_code
def yX0_setDegree : MethodName := ⟨RX0, "setDegree", "(I)V"⟩
abbrev cX0_isPrime : ByteArray := prog_1_method_22_code
def yX0_isPrime : MethodName := ⟨RX0, "isPrime", "(I)Z"⟩
abbrev cX0_leastRoot : ByteArray := prog_1_method_23_code
def yX0_leastRoot : MethodName := ⟨RX0, "leastRoot", "()I"⟩
abbrev cX0_hasAllPowers : ByteArray := prog_1_method_24_code
def yX0_hasAllPowers : MethodName := ⟨RX0, "hasAllPowers", "(I)Z"⟩
abbrev cX0_sharesDivisor : ByteArray := prog_1_method_25_code
def yX0_sharesDivisor : MethodName := ⟨RX0, "sharesDivisor", "(I)Z"⟩
abbrev cX0_isHold : ByteArray := prog_1_method_26_code
def yX0_isHold : MethodName := ⟨RX0, "isHold", "(I)Z"⟩
abbrev cX0_isClass : ByteArray := prog_1_method_27_code
def yX0_isClass : MethodName := ⟨RX0, "isClass", "(I)Z"⟩
abbrev cX0_isSet : ByteArray := prog_1_method_28_code
def yX0_isSet : MethodName := ⟨RX0, "isSet", "(I)Z"⟩
abbrev cX0_isSign : ByteArray := prog_1_method_29_code
def yX0_isSign : MethodName := ⟨RX0, "isSign", "(I)Z"⟩
abbrev cX0_classOf : ByteArray := prog_1_method_30_code
def yX0_classOf : MethodName := ⟨RX0, "classOf", "(I)I"⟩
abbrev cX0_add : ByteArray := prog_1_method_31_code
def yX0_add : MethodName := ⟨RX0, "add", "([I[II)V"⟩
abbrev cX0_multiply : ByteArray := prog_1_method_32_code
def yX0_multiply : MethodName := ⟨RX0, "multiply", "([I[II)V"⟩
abbrev cX0_reduce : ByteArray := prog_1_method_33_code
def yX0_reduce : MethodName := ⟨RX0, "reduce", "()V"⟩
abbrev cX0_store : ByteArray := prog_1_method_34_code
def yX0_store : MethodName := ⟨RX0, "store", "(I)I"⟩
abbrev cX0_likePower : ByteArray := prog_1_method_35_code
def yX0_likePower : MethodName := ⟨RX0, "likePower", "(I)I"⟩
abbrev cX0_lengthened : ByteArray := prog_1_method_36_code
def yX0_lengthened : MethodName := ⟨RX0, "lengthened", "(JI)J"⟩
abbrev cX0_fillSigns : ByteArray := prog_1_method_37_code
def yX0_fillSigns : MethodName := ⟨RX0, "fillSigns", "(II)V"⟩
abbrev cX0_agreement : ByteArray := prog_1_method_38_code
def yX0_agreement : MethodName := ⟨RX0, "agreement", "(I)I"⟩
abbrev cX0_differences : ByteArray := prog_1_method_39_code
def yX0_differences : MethodName := ⟨RX0, "differences", "(I)I"⟩
abbrev cX0_classNumberBySums : ByteArray := prog_1_method_40_code
def yX0_classNumberBySums : MethodName := ⟨RX0, "classNumberBySums", "()I"⟩
abbrev cX0_classNumberByForms : ByteArray := prog_1_method_41_code
def yX0_classNumberByForms : MethodName := ⟨RX0, "classNumberByForms", "()I"⟩
abbrev cX0_isForm : ByteArray := prog_1_method_42_code
def yX0_isForm : MethodName := ⟨RX0, "isForm", "(II)Z"⟩
def RX1 : String := "TurningSumsModel"
def TX1 : u_T := fun k => match k with
  | 0 => ("TurningSumsModel", "p", "I", false)
  | 1 => ("TurningSumsModel", "root", "I", false)
  | 2 => ("TurningSumsModel", "d", "I", false)
  | 3 => ("TurningSumsModel", "phi", "I", false)
  | 4 => ("TurningSumsModel", "index", "[I", true)
  | 5 => ("TurningSumsModel", "hold", "[J", true)
  | 6 => ("TurningSumsModel", "relation", "[I", true)
  | 7 => ("TurningSumsModel", "work", "[J", true)
  | 8 => ("TurningSumsModel", "turned", "[J", true)
  | 9 => ("TurningSumsModel", "ways", "[J", true)
  | _ => ("TurningSumsModel", "next", "[J", true)
def tyX1 : Nat → FieldType := fun k => match k with
  | 0 => .int
  | 1 => .int
  | 2 => .int
  | 3 => .int
  | 4 => .array .int
  | 5 => .array .long
  | 6 => .array .int
  | 7 => .array .long
  | 8 => .array .long
  | 9 => .array .long
  | _ => .array .long
abbrev wsX10 : List Cond := u_ws RX1 TX1 11
theorem nmX1 : ∀ a, a < 11 → ∀ b, b < 11 → a ≠ b → (TX1 a).2.1 ≠ (TX1 b).2.1 := by decide +kernel
theorem tyX1_ok : ∀ k, k < 11 → parseFieldDescriptor (TX1 k).2.2.1 = some (tyX1 k) := by decide +kernel
abbrev cX1_init : ByteArray := prog_3_method_1_code
def yX1_init : MethodName := ⟨RX1, "<init>", "()V"⟩
abbrev cX1_in : ByteArray := prog_3_method_2_code
def yX1_in : MethodName := ⟨RX1, "in", "(JJJ)Z"⟩
abbrev cX1_isHold : ByteArray := prog_3_method_3_code
def yX1_isHold : MethodName := ⟨RX1, "isHold", "(I)Z"⟩
abbrev cX1_rem : ByteArray := prog_3_method_4_code
def yX1_rem : MethodName := ⟨RX1, "rem", "(JI)I"⟩
abbrev cX1_isPrime : ByteArray := prog_3_method_5_code
def yX1_isPrime : MethodName := ⟨RX1, "isPrime", "(I)Z"⟩
abbrev cX1_begin : ByteArray := prog_3_method_6_code
def yX1_begin : MethodName := ⟨RX1, "begin", "(I)V"⟩
abbrev cX1_common : ByteArray := prog_3_method_7_code
def yX1_common : MethodName := ⟨RX1, "common", "(II)I"⟩
abbrev cX1_setDegree : ByteArray := prog_3_method_8_code
def yX1_setDegree : MethodName := ⟨RX1, "setDegree", "(I)V"⟩
abbrev cX1_prime : ByteArray := prog_3_method_9_code
def yX1_prime : MethodName := ⟨RX1, "prime", "(I)I"⟩
abbrev cX1_degree : ByteArray := prog_3_method_10_code
def yX1_degree : MethodName := ⟨RX1, "degree", "(I)I"⟩
abbrev cX1_rest : ByteArray := prog_3_method_11_code
def yX1_rest : MethodName := ⟨RX1, "rest", "(II)I"⟩
abbrev cX1_classOf : ByteArray := prog_3_method_12_code
def yX1_classOf : MethodName := ⟨RX1, "classOf", "(I)I"⟩
abbrev cX1_meeting : ByteArray := prog_3_method_13_code
def yX1_meeting : MethodName := ⟨RX1, "meeting", "(II)I"⟩
abbrev cX1_empty : ByteArray := prog_3_method_14_code
def yX1_empty : MethodName := ⟨RX1, "empty", "()V"⟩
abbrev cX1_reduce : ByteArray := prog_3_method_15_code
def yX1_reduce : MethodName := ⟨RX1, "reduce", "()V"⟩
abbrev cX1_lay : ByteArray := prog_3_method_16_code
def yX1_lay : MethodName := ⟨RX1, "lay", "(I)I"⟩
abbrev cX1_sum : ByteArray := prog_3_method_17_code
def yX1_sum : MethodName := ⟨RX1, "sum", "(III)I"⟩
abbrev cX1_unit : ByteArray := prog_3_method_18_code
def yX1_unit : MethodName := ⟨RX1, "unit", "(III)I"⟩
abbrev cX1_times : ByteArray := prog_3_method_19_code
def yX1_times : MethodName := ⟨RX1, "times", "(I[JI)V"⟩
abbrev cX1_join : ByteArray := prog_3_method_20_code
def yX1_join : MethodName := ⟨RX1, "join", "(IIII)I"⟩
abbrev cX1_turnOver : ByteArray := prog_3_method_21_code
def yX1_turnOver : MethodName := ⟨RX1, "turnOver", "(II)V"⟩
abbrev cX1_turn : ByteArray := prog_3_method_22_code
def yX1_turn : MethodName := ⟨RX1, "turn", "(III)I"⟩
abbrev cX1_at : ByteArray := prog_3_method_23_code
def yX1_at : MethodName := ⟨RX1, "at", "(II)I"⟩
abbrev cX1_same : ByteArray := prog_3_method_24_code
def yX1_same : MethodName := ⟨RX1, "same", "(II)I"⟩
abbrev cX1_size : ByteArray := prog_3_method_25_code
def yX1_size : MethodName := ⟨RX1, "size", "(I)J"⟩
abbrev cX1_power : ByteArray := prog_3_method_26_code
def yX1_power : MethodName := ⟨RX1, "power", "(I)I"⟩
abbrev cX1_solutions : ByteArray := prog_3_method_27_code
def yX1_solutions : MethodName := ⟨RX1, "solutions", "(III)I"⟩
abbrev cX1_rows : ByteArray := prog_3_method_28_code
def yX1_rows : MethodName := ⟨RX1, "rows", "(I)J"⟩
abbrev cX1_signOf : ByteArray := prog_3_method_29_code
def yX1_signOf : MethodName := ⟨RX1, "signOf", "(III)I"⟩
abbrev cX1_overOf : ByteArray := prog_3_method_30_code
def yX1_overOf : MethodName := ⟨RX1, "overOf", "(III)I"⟩
abbrev cX1_isSet : ByteArray := prog_3_method_31_code
def yX1_isSet : MethodName := ⟨RX1, "isSet", "(I)Z"⟩
abbrev cX1_isSign : ByteArray := prog_3_method_32_code
def yX1_isSign : MethodName := ⟨RX1, "isSign", "(I)Z"⟩
abbrev cX1_over : ByteArray := prog_3_method_33_code
def yX1_over : MethodName := ⟨RX1, "over", "(III)I"⟩
abbrev cX1_peak : ByteArray := prog_3_method_34_code
def yX1_peak : MethodName := ⟨RX1, "peak", "(II)I"⟩
abbrev cX1_even : ByteArray := prog_3_method_35_code
def yX1_even : MethodName := ⟨RX1, "even", "(I)I"⟩
abbrev cX1_classes : ByteArray := prog_3_method_36_code
def yX1_classes : MethodName := ⟨RX1, "classes", "(I)I"⟩
abbrev cX1_count : ByteArray := prog_3_method_37_code
def yX1_count : MethodName := ⟨RX1, "count", "(I)I"⟩
def RJ9 : String := "java/lang/Math"
def TJ9 : u_T := fun k => match k with
  | _ => ("", "", "", false)
def tyJ9 : Nat → FieldType := fun k => match k with
  | _ => .int
abbrev wsJ90 : List Cond := u_ws RJ9 TJ9 0
theorem nmJ9 : ∀ a, a < 0 → ∀ b, b < 0 → a ≠ b → (TJ9 a).2.1 ≠ (TJ9 b).2.1 := by decide +kernel
theorem tyJ9_ok : ∀ k, k < 0 → parseFieldDescriptor (TJ9 k).2.2.1 = some (tyJ9 k) := by decide +kernel
abbrev cJ9_floorMod_7cf53 : ByteArray := prog_4_method_50_code
def yJ9_floorMod_7cf53 : MethodName := ⟨RJ9, "floorMod", "(II)I"⟩
abbrev cJ9_abs_0f7a4 : ByteArray := prog_4_method_59_code
def yJ9_abs_0f7a4 : MethodName := ⟨RJ9, "abs", "(I)I"⟩
abbrev cJ9_max_7cf53 : ByteArray := prog_4_method_65_code
def yJ9_max_7cf53 : MethodName := ⟨RJ9, "max", "(II)I"⟩
def RJ10 : String := "java/lang/System"
def TJ10 : u_T := fun k => match k with
  | _ => ("", "", "", false)
def tyJ10 : Nat → FieldType := fun k => match k with
  | _ => .int
abbrev wsJ100 : List Cond := u_ws RJ10 TJ10 0
theorem nmJ10 : ∀ a, a < 0 → ∀ b, b < 0 → a ≠ b → (TJ10 a).2.1 ≠ (TJ10 b).2.1 := by decide +kernel
theorem tyJ10_ok : ∀ k, k < 0 → parseFieldDescriptor (TJ10 k).2.2.1 = some (tyJ10 k) := by decide +kernel
def RJ7 : String := "java/util/Arrays"
def TJ7 : u_T := fun k => match k with
  | _ => ("", "", "", false)
def tyJ7 : Nat → FieldType := fun k => match k with
  | _ => .int
abbrev wsJ70 : List Cond := u_ws RJ7 TJ7 0
theorem nmJ7 : ∀ a, a < 0 → ∀ b, b < 0 → a ≠ b → (TJ7 a).2.1 ≠ (TJ7 b).2.1 := by decide +kernel
theorem tyJ7_ok : ∀ k, k < 0 → parseFieldDescriptor (TJ7 k).2.2.1 = some (tyJ7 k) := by decide +kernel
abbrev cJ7_fill_d0a16 : ByteArray := prog_6_method_101_code
def yJ7_fill_d0a16 : MethodName := ⟨RJ7, "fill", "([JJ)V"⟩
abbrev cJ7_fill_53178 : ByteArray := prog_6_method_103_code
def yJ7_fill_53178 : MethodName := ⟨RJ7, "fill", "([II)V"⟩
def RL : String := "TurningSumsLaw"
abbrev cL_law : ByteArray := code
def yL_law : MethodName := ⟨RL, "law", "([I)Z"⟩
def wsX0_hasAllPowers : List Cond := .code yX0_hasAllPowers cX0_hasAllPowers 4 (some .boolean) :: ([.fieldLink RX0 49 "TurningSums" "p" "I"] ++ wsX00)
def wsX0_leastRoot : List Cond := .code yX0_leastRoot cX0_leastRoot 2 (some .int) :: ([.fieldLink RX0 49 "TurningSums" "p" "I", .methodLink RX0 152 yX0_hasAllPowers, .instanceMethod yX0_hasAllPowers, .selects RX0 yX0_hasAllPowers yX0_hasAllPowers, .initialized RX0, .code yX0_hasAllPowers cX0_hasAllPowers 4 (some .boolean)] ++ wsX00)
def wsX0_sharesDivisor : List Cond := .code yX0_sharesDivisor cX0_sharesDivisor 3 (some .boolean) :: ([.fieldLink RX0 74 "TurningSums" "d" "I"] ++ wsX00)
def wsJ7_fill_53178 : List Cond := .code yJ7_fill_53178 cJ7_fill_53178 4 none :: ([])
def wsX0_setDegree : List Cond := .code yX0_setDegree cX0_setDegree 3 none :: ([.fieldLink RX0 74 "TurningSums" "d" "I", .fieldLink RX0 55 "TurningSums" "phi" "I", .fieldLink RX0 24 "TurningSums" "holds" "[[I", .methodLink RX0 93 yX0_sharesDivisor, .instanceMethod yX0_sharesDivisor, .selects RX0 yX0_sharesDivisor yX0_sharesDivisor, .initialized RX0, .code yX0_sharesDivisor cX0_sharesDivisor 3 (some .boolean), .methodLink RX0 102 yJ7_fill_53178, .static yJ7_fill_53178, .initialized RJ7, .code yJ7_fill_53178 cJ7_fill_53178 4 none] ++ wsX00)
def wsX0_setPrime_r1 : List Cond := [Cond.fieldLink RX0 49 "TurningSums" "p" "I", Cond.fieldLink RX0 45 "TurningSums" "root" "I", Cond.fieldLink RX0 9 "TurningSums" "indexOf" "[I", Cond.fieldLink RX0 13 "TurningSums" "powerOf" "[I", Cond.methodLink RX0 149 yX0_leastRoot, Cond.instanceMethod yX0_leastRoot, Cond.selects RX0 yX0_leastRoot yX0_leastRoot, Cond.initialized RX0, Cond.code yX0_leastRoot cX0_leastRoot 2 (some .int), Cond.methodLink RX0 152 yX0_hasAllPowers, Cond.instanceMethod yX0_hasAllPowers, Cond.selects RX0 yX0_hasAllPowers yX0_hasAllPowers, Cond.code yX0_hasAllPowers cX0_hasAllPowers 4 (some .boolean), Cond.methodLink RX0 52 yX0_setDegree, Cond.instanceMethod yX0_setDegree, Cond.selects RX0 yX0_setDegree yX0_setDegree, Cond.code yX0_setDegree cX0_setDegree 3 none, Cond.fieldLink RX0 74 "TurningSums" "d" "I", Cond.fieldLink RX0 55 "TurningSums" "phi" "I", Cond.fieldLink RX0 24 "TurningSums" "holds" "[[I", Cond.methodLink RX0 93 yX0_sharesDivisor, Cond.instanceMethod yX0_sharesDivisor, Cond.selects RX0 yX0_sharesDivisor yX0_sharesDivisor, Cond.code yX0_sharesDivisor cX0_sharesDivisor 3 (some .boolean)]
def wsX0_setPrime_r2 : List Cond := [Cond.methodLink RX0 102 yJ7_fill_53178, Cond.static yJ7_fill_53178, Cond.initialized RJ7, Cond.code yJ7_fill_53178 cJ7_fill_53178 4 none]
def wsX0_setPrime : List Cond := .code yX0_setPrime cX0_setPrime 4 none :: ((wsX0_setPrime_r1 ++ wsX0_setPrime_r2) ++ wsX00)
def wsX0_init_r1 : List Cond := [Cond.methodLink RX0 1 objectInit, Cond.instanceMethod objectInit, Cond.code objectInit ⟨#[0xb1]⟩ 1 none, Cond.arrayClass .int, Cond.fieldLink RX0 9 "TurningSums" "indexOf" "[I", Cond.fieldLink RX0 13 "TurningSums" "powerOf" "[I", Cond.fieldLink RX0 16 "TurningSums" "signOf" "[I", Cond.fieldLink RX0 19 "TurningSums" "timesOf" "[I", Cond.classLink RX0 22 "[[I", Cond.fieldLink RX0 24 "TurningSums" "holds" "[[I", Cond.arrayClass .long, Cond.fieldLink RX0 27 "TurningSums" "work" "[J", Cond.fieldLink RX0 31 "TurningSums" "rowsOfClass" "[J", Cond.fieldLink RX0 34 "TurningSums" "longerOfClass" "[J", Cond.methodLink RX0 37 yX0_setPrime, Cond.instanceMethod yX0_setPrime, Cond.selects RX0 yX0_setPrime yX0_setPrime, Cond.initialized RX0, Cond.code yX0_setPrime cX0_setPrime 4 none, Cond.fieldLink RX0 49 "TurningSums" "p" "I", Cond.fieldLink RX0 45 "TurningSums" "root" "I", Cond.methodLink RX0 149 yX0_leastRoot, Cond.instanceMethod yX0_leastRoot, Cond.selects RX0 yX0_leastRoot yX0_leastRoot]
def wsX0_init_r2 : List Cond := [Cond.code yX0_leastRoot cX0_leastRoot 2 (some .int), Cond.methodLink RX0 152 yX0_hasAllPowers, Cond.instanceMethod yX0_hasAllPowers, Cond.selects RX0 yX0_hasAllPowers yX0_hasAllPowers, Cond.code yX0_hasAllPowers cX0_hasAllPowers 4 (some .boolean), Cond.methodLink RX0 52 yX0_setDegree, Cond.instanceMethod yX0_setDegree, Cond.selects RX0 yX0_setDegree yX0_setDegree, Cond.code yX0_setDegree cX0_setDegree 3 none, Cond.fieldLink RX0 74 "TurningSums" "d" "I", Cond.fieldLink RX0 55 "TurningSums" "phi" "I", Cond.methodLink RX0 93 yX0_sharesDivisor, Cond.instanceMethod yX0_sharesDivisor, Cond.selects RX0 yX0_sharesDivisor yX0_sharesDivisor, Cond.code yX0_sharesDivisor cX0_sharesDivisor 3 (some .boolean), Cond.methodLink RX0 102 yJ7_fill_53178, Cond.static yJ7_fill_53178, Cond.initialized RJ7, Cond.code yJ7_fill_53178 cJ7_fill_53178 4 none]
def wsX0_init : List Cond := .code yX0_init cX0_init 1 none :: ((wsX0_init_r1 ++ wsX0_init_r2) ++ wsX00)
def wsX0_isPrime : List Cond := .code yX0_isPrime cX0_isPrime 2 (some .boolean) :: ([])
def wsX0_prime_r1 : List Cond := [Cond.fieldLink RX0 45 "TurningSums" "root" "I", Cond.methodLink RX0 41 yX0_isPrime, Cond.static yX0_isPrime, Cond.initialized RX0, Cond.code yX0_isPrime cX0_isPrime 2 (some .boolean), Cond.methodLink RX0 37 yX0_setPrime, Cond.instanceMethod yX0_setPrime, Cond.selects RX0 yX0_setPrime yX0_setPrime, Cond.code yX0_setPrime cX0_setPrime 4 none, Cond.fieldLink RX0 49 "TurningSums" "p" "I", Cond.fieldLink RX0 9 "TurningSums" "indexOf" "[I", Cond.fieldLink RX0 13 "TurningSums" "powerOf" "[I", Cond.methodLink RX0 149 yX0_leastRoot, Cond.instanceMethod yX0_leastRoot, Cond.selects RX0 yX0_leastRoot yX0_leastRoot, Cond.code yX0_leastRoot cX0_leastRoot 2 (some .int), Cond.methodLink RX0 152 yX0_hasAllPowers, Cond.instanceMethod yX0_hasAllPowers, Cond.selects RX0 yX0_hasAllPowers yX0_hasAllPowers, Cond.code yX0_hasAllPowers cX0_hasAllPowers 4 (some .boolean), Cond.methodLink RX0 52 yX0_setDegree, Cond.instanceMethod yX0_setDegree, Cond.selects RX0 yX0_setDegree yX0_setDegree, Cond.code yX0_setDegree cX0_setDegree 3 none]
def wsX0_prime_r2 : List Cond := [Cond.fieldLink RX0 74 "TurningSums" "d" "I", Cond.fieldLink RX0 55 "TurningSums" "phi" "I", Cond.fieldLink RX0 24 "TurningSums" "holds" "[[I", Cond.methodLink RX0 93 yX0_sharesDivisor, Cond.instanceMethod yX0_sharesDivisor, Cond.selects RX0 yX0_sharesDivisor yX0_sharesDivisor, Cond.code yX0_sharesDivisor cX0_sharesDivisor 3 (some .boolean), Cond.methodLink RX0 102 yJ7_fill_53178, Cond.static yJ7_fill_53178, Cond.initialized RJ7, Cond.code yJ7_fill_53178 cJ7_fill_53178 4 none]
def wsX0_prime : List Cond := .code yX0_prime cX0_prime 2 (some .int) :: ((wsX0_prime_r1 ++ wsX0_prime_r2) ++ wsX00)
def wsX0_degree : List Cond := .code yX0_degree cX0_degree 2 (some .int) :: ([.fieldLink RX0 49 "TurningSums" "p" "I", .fieldLink RX0 55 "TurningSums" "phi" "I", .methodLink RX0 52 yX0_setDegree, .instanceMethod yX0_setDegree, .selects RX0 yX0_setDegree yX0_setDegree, .initialized RX0, .code yX0_setDegree cX0_setDegree 3 none, .fieldLink RX0 74 "TurningSums" "d" "I", .fieldLink RX0 24 "TurningSums" "holds" "[[I", .methodLink RX0 93 yX0_sharesDivisor, .instanceMethod yX0_sharesDivisor, .selects RX0 yX0_sharesDivisor yX0_sharesDivisor, .code yX0_sharesDivisor cX0_sharesDivisor 3 (some .boolean), .methodLink RX0 102 yJ7_fill_53178, .static yJ7_fill_53178, .initialized RJ7, .code yJ7_fill_53178 cJ7_fill_53178 4 none] ++ wsX00)
def wsJ9_floorMod_7cf53 : List Cond := .code yJ9_floorMod_7cf53 cJ9_floorMod_7cf53 3 (some .int) :: ([])
def wsX0_classOf : List Cond := .code yX0_classOf cX0_classOf 2 (some .int) :: ([.fieldLink RX0 9 "TurningSums" "indexOf" "[I", .fieldLink RX0 49 "TurningSums" "p" "I", .fieldLink RX0 74 "TurningSums" "d" "I"] ++ wsX00)
def wsX0_rest : List Cond := .code yX0_rest cX0_rest 4 (some .int) :: ([.fieldLink RX0 49 "TurningSums" "p" "I", .fieldLink RX0 9 "TurningSums" "indexOf" "[I", .methodLink RX0 58 yJ9_floorMod_7cf53, .static yJ9_floorMod_7cf53, .initialized RJ9, .code yJ9_floorMod_7cf53 cJ9_floorMod_7cf53 3 (some .int), .methodLink RX0 64 yX0_classOf, .instanceMethod yX0_classOf, .selects RX0 yX0_classOf yX0_classOf, .initialized RX0, .code yX0_classOf cX0_classOf 2 (some .int), .fieldLink RX0 74 "TurningSums" "d" "I"] ++ wsX00)
def wsX0_isClass : List Cond := .code yX0_isClass cX0_isClass 2 (some .boolean) :: ([.fieldLink RX0 74 "TurningSums" "d" "I"] ++ wsX00)
def wsX0_meeting : List Cond := .code yX0_meeting cX0_meeting 5 (some .int) :: ([.fieldLink RX0 49 "TurningSums" "p" "I", .methodLink RX0 68 yX0_isClass, .instanceMethod yX0_isClass, .selects RX0 yX0_isClass yX0_isClass, .initialized RX0, .code yX0_isClass cX0_isClass 2 (some .boolean), .fieldLink RX0 74 "TurningSums" "d" "I", .methodLink RX0 64 yX0_classOf, .instanceMethod yX0_classOf, .selects RX0 yX0_classOf yX0_classOf, .code yX0_classOf cX0_classOf 2 (some .int), .fieldLink RX0 9 "TurningSums" "indexOf" "[I"] ++ wsX00)
def wsX0_isHold : List Cond := .code yX0_isHold cX0_isHold 1 (some .boolean) :: ([])
def wsJ7_fill_d0a16 : List Cond := .code yJ7_fill_d0a16 cJ7_fill_d0a16 5 none :: ([])
def wsX0_reduce : List Cond := .code yX0_reduce cX0_reduce 3 none :: ([.fieldLink RX0 74 "TurningSums" "d" "I", .fieldLink RX0 55 "TurningSums" "phi" "I", .fieldLink RX0 27 "TurningSums" "work" "[J", .fieldLink RX0 155 "TurningSums" "RELATIONS" "[I"] ++ wsX00)
def wsX0_store : List Cond := .code yX0_store cX0_store 3 (some .int) :: ([.fieldLink RX0 55 "TurningSums" "phi" "I", .fieldLink RX0 27 "TurningSums" "work" "[J", .constantLong RX0 158 (-100000000), .constantLong RX0 160 (100000000), .fieldLink RX0 24 "TurningSums" "holds" "[[I", .methodLink RX0 99 yX0_reduce, .instanceMethod yX0_reduce, .selects RX0 yX0_reduce yX0_reduce, .initialized RX0, .code yX0_reduce cX0_reduce 3 none, .fieldLink RX0 74 "TurningSums" "d" "I", .fieldLink RX0 155 "TurningSums" "RELATIONS" "[I"] ++ wsX00)
def wsX0_sum_r1 : List Cond := [Cond.fieldLink RX0 74 "TurningSums" "d" "I", Cond.fieldLink RX0 27 "TurningSums" "work" "[J", Cond.fieldLink RX0 49 "TurningSums" "p" "I", Cond.methodLink RX0 71 yX0_isHold, Cond.static yX0_isHold, Cond.initialized RX0, Cond.code yX0_isHold cX0_isHold 1 (some .boolean), Cond.methodLink RX0 58 yJ9_floorMod_7cf53, Cond.static yJ9_floorMod_7cf53, Cond.initialized RJ9, Cond.code yJ9_floorMod_7cf53 cJ9_floorMod_7cf53 3 (some .int), Cond.methodLink RX0 77 yJ7_fill_d0a16, Cond.static yJ7_fill_d0a16, Cond.initialized RJ7, Cond.code yJ7_fill_d0a16 cJ7_fill_d0a16 5 none, Cond.methodLink RX0 64 yX0_classOf, Cond.instanceMethod yX0_classOf, Cond.selects RX0 yX0_classOf yX0_classOf, Cond.code yX0_classOf cX0_classOf 2 (some .int), Cond.fieldLink RX0 9 "TurningSums" "indexOf" "[I", Cond.methodLink RX0 83 yX0_store, Cond.instanceMethod yX0_store, Cond.selects RX0 yX0_store yX0_store, Cond.code yX0_store cX0_store 3 (some .int)]
def wsX0_sum_r2 : List Cond := [Cond.fieldLink RX0 55 "TurningSums" "phi" "I", Cond.constantLong RX0 158 (-100000000), Cond.constantLong RX0 160 (100000000), Cond.fieldLink RX0 24 "TurningSums" "holds" "[[I", Cond.methodLink RX0 99 yX0_reduce, Cond.instanceMethod yX0_reduce, Cond.selects RX0 yX0_reduce yX0_reduce, Cond.code yX0_reduce cX0_reduce 3 none, Cond.fieldLink RX0 155 "TurningSums" "RELATIONS" "[I"]
def wsX0_sum : List Cond := .code yX0_sum cX0_sum 7 (some .int) :: ((wsX0_sum_r1 ++ wsX0_sum_r2) ++ wsX00)
def wsX0_unit_r1 : List Cond := [Cond.fieldLink RX0 27 "TurningSums" "work" "[J", Cond.fieldLink RX0 74 "TurningSums" "d" "I", Cond.methodLink RX0 71 yX0_isHold, Cond.static yX0_isHold, Cond.initialized RX0, Cond.code yX0_isHold cX0_isHold 1 (some .boolean), Cond.methodLink RX0 77 yJ7_fill_d0a16, Cond.static yJ7_fill_d0a16, Cond.initialized RJ7, Cond.code yJ7_fill_d0a16 cJ7_fill_d0a16 5 none, Cond.methodLink RX0 58 yJ9_floorMod_7cf53, Cond.static yJ9_floorMod_7cf53, Cond.initialized RJ9, Cond.code yJ9_floorMod_7cf53 cJ9_floorMod_7cf53 3 (some .int), Cond.methodLink RX0 83 yX0_store, Cond.instanceMethod yX0_store, Cond.selects RX0 yX0_store yX0_store, Cond.code yX0_store cX0_store 3 (some .int), Cond.fieldLink RX0 55 "TurningSums" "phi" "I", Cond.constantLong RX0 158 (-100000000), Cond.constantLong RX0 160 (100000000), Cond.fieldLink RX0 24 "TurningSums" "holds" "[[I", Cond.methodLink RX0 99 yX0_reduce, Cond.instanceMethod yX0_reduce]
def wsX0_unit_r2 : List Cond := [Cond.selects RX0 yX0_reduce yX0_reduce, Cond.code yX0_reduce cX0_reduce 3 none, Cond.fieldLink RX0 155 "TurningSums" "RELATIONS" "[I"]
def wsX0_unit : List Cond := .code yX0_unit cX0_unit 4 (some .int) :: ((wsX0_unit_r1 ++ wsX0_unit_r2) ++ wsX00)
def wsX0_multiply : List Cond := .code yX0_multiply cX0_multiply 6 none :: ([.fieldLink RX0 27 "TurningSums" "work" "[J", .fieldLink RX0 55 "TurningSums" "phi" "I", .fieldLink RX0 74 "TurningSums" "d" "I", .methodLink RX0 77 yJ7_fill_d0a16, .static yJ7_fill_d0a16, .initialized RJ7, .code yJ7_fill_d0a16 cJ7_fill_d0a16 5 none] ++ wsX00)
def wsX0_add : List Cond := .code yX0_add cX0_add 5 none :: ([.fieldLink RX0 27 "TurningSums" "work" "[J", .fieldLink RX0 55 "TurningSums" "phi" "I", .methodLink RX0 77 yJ7_fill_d0a16, .static yJ7_fill_d0a16, .initialized RJ7, .code yJ7_fill_d0a16 cJ7_fill_d0a16 5 none] ++ wsX00)
def wsX0_join_r1 : List Cond := [Cond.fieldLink RX0 24 "TurningSums" "holds" "[[I", Cond.methodLink RX0 71 yX0_isHold, Cond.static yX0_isHold, Cond.initialized RX0, Cond.code yX0_isHold cX0_isHold 1 (some .boolean), Cond.methodLink RX0 86 yX0_multiply, Cond.instanceMethod yX0_multiply, Cond.selects RX0 yX0_multiply yX0_multiply, Cond.code yX0_multiply cX0_multiply 6 none, Cond.fieldLink RX0 27 "TurningSums" "work" "[J", Cond.fieldLink RX0 55 "TurningSums" "phi" "I", Cond.fieldLink RX0 74 "TurningSums" "d" "I", Cond.methodLink RX0 77 yJ7_fill_d0a16, Cond.static yJ7_fill_d0a16, Cond.initialized RJ7, Cond.code yJ7_fill_d0a16 cJ7_fill_d0a16 5 none, Cond.methodLink RX0 90 yX0_add, Cond.instanceMethod yX0_add, Cond.selects RX0 yX0_add yX0_add, Cond.code yX0_add cX0_add 5 none, Cond.methodLink RX0 83 yX0_store, Cond.instanceMethod yX0_store, Cond.selects RX0 yX0_store yX0_store, Cond.code yX0_store cX0_store 3 (some .int)]
def wsX0_join_r2 : List Cond := [Cond.constantLong RX0 158 (-100000000), Cond.constantLong RX0 160 (100000000), Cond.methodLink RX0 99 yX0_reduce, Cond.instanceMethod yX0_reduce, Cond.selects RX0 yX0_reduce yX0_reduce, Cond.code yX0_reduce cX0_reduce 3 none, Cond.fieldLink RX0 155 "TurningSums" "RELATIONS" "[I"]
def wsX0_join : List Cond := .code yX0_join cX0_join 5 (some .int) :: ((wsX0_join_r1 ++ wsX0_join_r2) ++ wsX00)
def wsX0_turn_r1 : List Cond := [Cond.fieldLink RX0 74 "TurningSums" "d" "I", Cond.fieldLink RX0 27 "TurningSums" "work" "[J", Cond.fieldLink RX0 55 "TurningSums" "phi" "I", Cond.fieldLink RX0 24 "TurningSums" "holds" "[[I", Cond.methodLink RX0 71 yX0_isHold, Cond.static yX0_isHold, Cond.initialized RX0, Cond.code yX0_isHold cX0_isHold 1 (some .boolean), Cond.methodLink RX0 93 yX0_sharesDivisor, Cond.instanceMethod yX0_sharesDivisor, Cond.selects RX0 yX0_sharesDivisor yX0_sharesDivisor, Cond.code yX0_sharesDivisor cX0_sharesDivisor 3 (some .boolean), Cond.methodLink RX0 58 yJ9_floorMod_7cf53, Cond.static yJ9_floorMod_7cf53, Cond.initialized RJ9, Cond.code yJ9_floorMod_7cf53 cJ9_floorMod_7cf53 3 (some .int), Cond.methodLink RX0 77 yJ7_fill_d0a16, Cond.static yJ7_fill_d0a16, Cond.initialized RJ7, Cond.code yJ7_fill_d0a16 cJ7_fill_d0a16 5 none, Cond.methodLink RX0 83 yX0_store, Cond.instanceMethod yX0_store, Cond.selects RX0 yX0_store yX0_store, Cond.code yX0_store cX0_store 3 (some .int)]
def wsX0_turn_r2 : List Cond := [Cond.constantLong RX0 158 (-100000000), Cond.constantLong RX0 160 (100000000), Cond.methodLink RX0 99 yX0_reduce, Cond.instanceMethod yX0_reduce, Cond.selects RX0 yX0_reduce yX0_reduce, Cond.code yX0_reduce cX0_reduce 3 none, Cond.fieldLink RX0 155 "TurningSums" "RELATIONS" "[I"]
def wsX0_turn : List Cond := .code yX0_turn cX0_turn 6 (some .int) :: ((wsX0_turn_r1 ++ wsX0_turn_r2) ++ wsX00)
def wsX0_at : List Cond := .code yX0_at cX0_at 3 (some .int) :: ([.fieldLink RX0 55 "TurningSums" "phi" "I", .constant RX0 96 (-2147483648), .fieldLink RX0 24 "TurningSums" "holds" "[[I", .methodLink RX0 71 yX0_isHold, .static yX0_isHold, .initialized RX0, .code yX0_isHold cX0_isHold 1 (some .boolean)] ++ wsX00)
def wsX0_same : List Cond := .code yX0_same cX0_same 4 (some .int) :: ([.fieldLink RX0 55 "TurningSums" "phi" "I", .fieldLink RX0 24 "TurningSums" "holds" "[[I", .methodLink RX0 71 yX0_isHold, .static yX0_isHold, .initialized RX0, .code yX0_isHold cX0_isHold 1 (some .boolean)] ++ wsX00)
def wsX0_size : List Cond := .code yX0_size cX0_size 3 (some .long) :: ([.constantLong RX0 97 (-9223372036854775808), .fieldLink RX0 24 "TurningSums" "holds" "[[I", .fieldLink RX0 74 "TurningSums" "d" "I", .fieldLink RX0 55 "TurningSums" "phi" "I", .fieldLink RX0 27 "TurningSums" "work" "[J", .methodLink RX0 71 yX0_isHold, .static yX0_isHold, .initialized RX0, .code yX0_isHold cX0_isHold 1 (some .boolean), .methodLink RX0 86 yX0_multiply, .instanceMethod yX0_multiply, .selects RX0 yX0_multiply yX0_multiply, .code yX0_multiply cX0_multiply 6 none, .methodLink RX0 77 yJ7_fill_d0a16, .static yJ7_fill_d0a16, .initialized RJ7, .code yJ7_fill_d0a16 cJ7_fill_d0a16 5 none, .methodLink RX0 99 yX0_reduce, .instanceMethod yX0_reduce, .selects RX0 yX0_reduce yX0_reduce, .code yX0_reduce cX0_reduce 3 none, .fieldLink RX0 155 "TurningSums" "RELATIONS" "[I"] ++ wsX00)
def wsX0_likePower : List Cond := .code yX0_likePower cX0_likePower 2 (some .int) :: ([.fieldLink RX0 13 "TurningSums" "powerOf" "[I", .fieldLink RX0 9 "TurningSums" "indexOf" "[I", .fieldLink RX0 74 "TurningSums" "d" "I", .fieldLink RX0 49 "TurningSums" "p" "I"] ++ wsX00)
def wsX0_solutions : List Cond := .code yX0_solutions cX0_solutions 9 (some .int) :: ([.fieldLink RX0 49 "TurningSums" "p" "I", .fieldLink RX0 19 "TurningSums" "timesOf" "[I", .methodLink RX0 58 yJ9_floorMod_7cf53, .static yJ9_floorMod_7cf53, .initialized RJ9, .code yJ9_floorMod_7cf53 cJ9_floorMod_7cf53 3 (some .int), .methodLink RX0 102 yJ7_fill_53178, .static yJ7_fill_53178, .initialized RJ7, .code yJ7_fill_53178 cJ7_fill_53178 4 none, .methodLink RX0 105 yX0_likePower, .instanceMethod yX0_likePower, .selects RX0 yX0_likePower yX0_likePower, .initialized RX0, .code yX0_likePower cX0_likePower 2 (some .int), .fieldLink RX0 13 "TurningSums" "powerOf" "[I", .fieldLink RX0 9 "TurningSums" "indexOf" "[I", .fieldLink RX0 74 "TurningSums" "d" "I"] ++ wsX00)
def wsX0_lengthened : List Cond := .code yX0_lengthened cX0_lengthened 9 (some .long) :: ([.fieldLink RX0 49 "TurningSums" "p" "I", .fieldLink RX0 74 "TurningSums" "d" "I", .fieldLink RX0 13 "TurningSums" "powerOf" "[I", .fieldLink RX0 31 "TurningSums" "rowsOfClass" "[J", .methodLink RX0 64 yX0_classOf, .instanceMethod yX0_classOf, .selects RX0 yX0_classOf yX0_classOf, .initialized RX0, .code yX0_classOf cX0_classOf 2 (some .int), .fieldLink RX0 9 "TurningSums" "indexOf" "[I"] ++ wsX00)
def wsX0_rows : List Cond := .code yX0_rows cX0_rows 6 (some .long) :: ([.constantLong RX0 108 (-3), .fieldLink RX0 31 "TurningSums" "rowsOfClass" "[J", .fieldLink RX0 74 "TurningSums" "d" "I", .fieldLink RX0 34 "TurningSums" "longerOfClass" "[J", .fieldLink RX0 13 "TurningSums" "powerOf" "[I", .methodLink RX0 114 arraycopyName, .native arraycopyName, .static arraycopyName, .initialized "java/lang/System", .methodLink RX0 77 yJ7_fill_d0a16, .static yJ7_fill_d0a16, .initialized RJ7, .code yJ7_fill_d0a16 cJ7_fill_d0a16 5 none, .methodLink RX0 110 yX0_lengthened, .instanceMethod yX0_lengthened, .selects RX0 yX0_lengthened yX0_lengthened, .initialized RX0, .code yX0_lengthened cX0_lengthened 9 (some .long), .fieldLink RX0 49 "TurningSums" "p" "I", .methodLink RX0 64 yX0_classOf, .instanceMethod yX0_classOf, .selects RX0 yX0_classOf yX0_classOf, .code yX0_classOf cX0_classOf 2 (some .int), .fieldLink RX0 9 "TurningSums" "indexOf" "[I"] ++ wsX00)
def wsX0_isSet : List Cond := .code yX0_isSet cX0_isSet 2 (some .boolean) :: ([.fieldLink RX0 74 "TurningSums" "d" "I"] ++ wsX00)
def wsX0_isSign : List Cond := .code yX0_isSign cX0_isSign 1 (some .boolean) :: ([])
def wsX0_fillSigns : List Cond := .code yX0_fillSigns cX0_fillSigns 4 none :: ([.fieldLink RX0 16 "TurningSums" "signOf" "[I", .fieldLink RX0 49 "TurningSums" "p" "I", .methodLink RX0 64 yX0_classOf, .instanceMethod yX0_classOf, .selects RX0 yX0_classOf yX0_classOf, .initialized RX0, .code yX0_classOf cX0_classOf 2 (some .int), .fieldLink RX0 9 "TurningSums" "indexOf" "[I", .fieldLink RX0 74 "TurningSums" "d" "I"] ++ wsX00)
def wsX0_agreement : List Cond := .code yX0_agreement cX0_agreement 4 (some .int) :: ([.fieldLink RX0 49 "TurningSums" "p" "I", .fieldLink RX0 16 "TurningSums" "signOf" "[I"] ++ wsX00)
def wsX0_over_r1 : List Cond := [Cond.constant RX0 96 (-2147483648), Cond.fieldLink RX0 49 "TurningSums" "p" "I", Cond.methodLink RX0 120 yX0_isSet, Cond.instanceMethod yX0_isSet, Cond.selects RX0 yX0_isSet yX0_isSet, Cond.initialized RX0, Cond.code yX0_isSet cX0_isSet 2 (some .boolean), Cond.fieldLink RX0 74 "TurningSums" "d" "I", Cond.methodLink RX0 123 yX0_isSign, Cond.static yX0_isSign, Cond.code yX0_isSign cX0_isSign 1 (some .boolean), Cond.methodLink RX0 126 yX0_fillSigns, Cond.instanceMethod yX0_fillSigns, Cond.selects RX0 yX0_fillSigns yX0_fillSigns, Cond.code yX0_fillSigns cX0_fillSigns 4 none, Cond.fieldLink RX0 16 "TurningSums" "signOf" "[I", Cond.methodLink RX0 64 yX0_classOf, Cond.instanceMethod yX0_classOf, Cond.selects RX0 yX0_classOf yX0_classOf, Cond.code yX0_classOf cX0_classOf 2 (some .int), Cond.fieldLink RX0 9 "TurningSums" "indexOf" "[I", Cond.methodLink RX0 58 yJ9_floorMod_7cf53, Cond.static yJ9_floorMod_7cf53, Cond.initialized RJ9]
def wsX0_over_r2 : List Cond := [Cond.code yJ9_floorMod_7cf53 cJ9_floorMod_7cf53 3 (some .int), Cond.methodLink RX0 130 yX0_agreement, Cond.instanceMethod yX0_agreement, Cond.selects RX0 yX0_agreement yX0_agreement, Cond.code yX0_agreement cX0_agreement 4 (some .int)]
def wsX0_over : List Cond := .code yX0_over cX0_over 4 (some .int) :: ((wsX0_over_r1 ++ wsX0_over_r2) ++ wsX00)
def wsX0_peak_r1 : List Cond := [Cond.fieldLink RX0 74 "TurningSums" "d" "I", Cond.fieldLink RX0 13 "TurningSums" "powerOf" "[I", Cond.methodLink RX0 133 Lib.Math.abs.name, Cond.static Lib.Math.abs.name, Cond.initialized "java/lang/Math", Cond.code Lib.Math.abs.name Lib.Math.abs.code 1 (some .int), Cond.methodLink RX0 136 Lib.Math.max.name, Cond.static Lib.Math.max.name, Cond.code Lib.Math.max.name Lib.Math.max.code 2 (some .int), Cond.methodLink RX0 120 yX0_isSet, Cond.instanceMethod yX0_isSet, Cond.selects RX0 yX0_isSet yX0_isSet, Cond.initialized RX0, Cond.code yX0_isSet cX0_isSet 2 (some .boolean), Cond.methodLink RX0 123 yX0_isSign, Cond.static yX0_isSign, Cond.code yX0_isSign cX0_isSign 1 (some .boolean), Cond.methodLink RX0 126 yX0_fillSigns, Cond.instanceMethod yX0_fillSigns, Cond.selects RX0 yX0_fillSigns yX0_fillSigns, Cond.code yX0_fillSigns cX0_fillSigns 4 none, Cond.fieldLink RX0 16 "TurningSums" "signOf" "[I", Cond.fieldLink RX0 49 "TurningSums" "p" "I", Cond.methodLink RX0 64 yX0_classOf]
def wsX0_peak_r2 : List Cond := [Cond.instanceMethod yX0_classOf, Cond.selects RX0 yX0_classOf yX0_classOf, Cond.code yX0_classOf cX0_classOf 2 (some .int), Cond.fieldLink RX0 9 "TurningSums" "indexOf" "[I", Cond.methodLink RX0 130 yX0_agreement, Cond.instanceMethod yX0_agreement, Cond.selects RX0 yX0_agreement yX0_agreement, Cond.code yX0_agreement cX0_agreement 4 (some .int)]
def wsX0_peak : List Cond := .code yX0_peak cX0_peak 5 (some .int) :: ((wsX0_peak_r1 ++ wsX0_peak_r2) ++ wsX00)
def wsX0_differences : List Cond := .code yX0_differences cX0_differences 4 (some .int) :: ([.fieldLink RX0 49 "TurningSums" "p" "I", .fieldLink RX0 16 "TurningSums" "signOf" "[I"] ++ wsX00)
def wsX0_even : List Cond := .code yX0_even cX0_even 4 (some .int) :: ([.fieldLink RX0 13 "TurningSums" "powerOf" "[I", .fieldLink RX0 74 "TurningSums" "d" "I", .methodLink RX0 120 yX0_isSet, .instanceMethod yX0_isSet, .selects RX0 yX0_isSet yX0_isSet, .initialized RX0, .code yX0_isSet cX0_isSet 2 (some .boolean), .methodLink RX0 126 yX0_fillSigns, .instanceMethod yX0_fillSigns, .selects RX0 yX0_fillSigns yX0_fillSigns, .code yX0_fillSigns cX0_fillSigns 4 none, .fieldLink RX0 16 "TurningSums" "signOf" "[I", .fieldLink RX0 49 "TurningSums" "p" "I", .methodLink RX0 64 yX0_classOf, .instanceMethod yX0_classOf, .selects RX0 yX0_classOf yX0_classOf, .code yX0_classOf cX0_classOf 2 (some .int), .fieldLink RX0 9 "TurningSums" "indexOf" "[I", .methodLink RX0 139 yX0_differences, .instanceMethod yX0_differences, .selects RX0 yX0_differences yX0_differences, .code yX0_differences cX0_differences 4 (some .int)] ++ wsX00)
def wsX0_classNumberBySums : List Cond := .code yX0_classNumberBySums cX0_classNumberBySums 3 (some .int) :: ([.fieldLink RX0 49 "TurningSums" "p" "I", .fieldLink RX0 9 "TurningSums" "indexOf" "[I"] ++ wsX00)
def wsX0_isForm : List Cond := .code yX0_isForm cX0_isForm 6 (some .boolean) :: ([.fieldLink RX0 49 "TurningSums" "p" "I"] ++ wsX00)
def wsX0_classNumberByForms : List Cond := .code yX0_classNumberByForms cX0_classNumberByForms 4 (some .int) :: ([.methodLink RX0 162 yX0_isForm, .instanceMethod yX0_isForm, .selects RX0 yX0_isForm yX0_isForm, .initialized RX0, .code yX0_isForm cX0_isForm 6 (some .boolean), .fieldLink RX0 49 "TurningSums" "p" "I"] ++ wsX00)
def wsX0_classes : List Cond := .code yX0_classes cX0_classes 2 (some .int) :: ([.fieldLink RX0 49 "TurningSums" "p" "I", .methodLink RX0 142 yX0_classNumberBySums, .instanceMethod yX0_classNumberBySums, .selects RX0 yX0_classNumberBySums yX0_classNumberBySums, .initialized RX0, .code yX0_classNumberBySums cX0_classNumberBySums 3 (some .int), .fieldLink RX0 9 "TurningSums" "indexOf" "[I", .methodLink RX0 146 yX0_classNumberByForms, .instanceMethod yX0_classNumberByForms, .selects RX0 yX0_classNumberByForms yX0_classNumberByForms, .code yX0_classNumberByForms cX0_classNumberByForms 4 (some .int), .methodLink RX0 162 yX0_isForm, .instanceMethod yX0_isForm, .selects RX0 yX0_isForm yX0_isForm, .code yX0_isForm cX0_isForm 6 (some .boolean)] ++ wsX00)
def wsX0_count : List Cond := .code yX0_count cX0_count 2 (some .int) :: ([.fieldLink RX0 49 "TurningSums" "p" "I", .fieldLink RX0 45 "TurningSums" "root" "I", .fieldLink RX0 74 "TurningSums" "d" "I", .fieldLink RX0 55 "TurningSums" "phi" "I"] ++ wsX00)
def wsX1_common : List Cond := .code yX1_common cX1_common 5 (some .int) :: ([])
def wsX1_setDegree : List Cond := .code yX1_setDegree cX1_setDegree 3 none :: ([.fieldLink RX1 52 "TurningSumsModel" "d" "I", .fieldLink RX1 55 "TurningSumsModel" "phi" "I", .fieldLink RX1 13 "TurningSumsModel" "hold" "[J", .fieldLink RX1 17 "TurningSumsModel" "relation" "[I", .methodLink RX1 58 yX1_common, .static yX1_common, .initialized RX1, .code yX1_common cX1_common 5 (some .int)] ++ wsX10)
def wsX1_begin : List Cond := .code yX1_begin cX1_begin 4 none :: ([.fieldLink RX1 42 "TurningSumsModel" "p" "I", .fieldLink RX1 46 "TurningSumsModel" "root" "I", .fieldLink RX1 7 "TurningSumsModel" "index" "[I", .methodLink RX1 49 yX1_setDegree, .instanceMethod yX1_setDegree, .selects RX1 yX1_setDegree yX1_setDegree, .initialized RX1, .code yX1_setDegree cX1_setDegree 3 none, .fieldLink RX1 52 "TurningSumsModel" "d" "I", .fieldLink RX1 55 "TurningSumsModel" "phi" "I", .fieldLink RX1 13 "TurningSumsModel" "hold" "[J", .fieldLink RX1 17 "TurningSumsModel" "relation" "[I", .methodLink RX1 58 yX1_common, .static yX1_common, .code yX1_common cX1_common 5 (some .int)] ++ wsX10)
def wsX1_init_r1 : List Cond := [Cond.methodLink RX1 1 objectInit, Cond.instanceMethod objectInit, Cond.code objectInit ⟨#[0xb1]⟩ 1 none, Cond.arrayClass .int, Cond.fieldLink RX1 7 "TurningSumsModel" "index" "[I", Cond.arrayClass .long, Cond.fieldLink RX1 13 "TurningSumsModel" "hold" "[J", Cond.fieldLink RX1 17 "TurningSumsModel" "relation" "[I", Cond.fieldLink RX1 20 "TurningSumsModel" "work" "[J", Cond.fieldLink RX1 23 "TurningSumsModel" "turned" "[J", Cond.fieldLink RX1 26 "TurningSumsModel" "ways" "[J", Cond.fieldLink RX1 29 "TurningSumsModel" "next" "[J", Cond.methodLink RX1 32 yX1_begin, Cond.instanceMethod yX1_begin, Cond.selects RX1 yX1_begin yX1_begin, Cond.initialized RX1, Cond.code yX1_begin cX1_begin 4 none, Cond.fieldLink RX1 42 "TurningSumsModel" "p" "I", Cond.fieldLink RX1 46 "TurningSumsModel" "root" "I", Cond.methodLink RX1 49 yX1_setDegree, Cond.instanceMethod yX1_setDegree, Cond.selects RX1 yX1_setDegree yX1_setDegree, Cond.code yX1_setDegree cX1_setDegree 3 none, Cond.fieldLink RX1 52 "TurningSumsModel" "d" "I"]
def wsX1_init_r2 : List Cond := [Cond.fieldLink RX1 55 "TurningSumsModel" "phi" "I", Cond.methodLink RX1 58 yX1_common, Cond.static yX1_common, Cond.code yX1_common cX1_common 5 (some .int)]
def wsX1_init : List Cond := .code yX1_init cX1_init 1 none :: ((wsX1_init_r1 ++ wsX1_init_r2) ++ wsX10)
def wsX1_in : List Cond := .code yX1_in cX1_in 6 (some .boolean) :: ([])
def wsX1_isHold : List Cond := .code yX1_isHold cX1_isHold 1 (some .boolean) :: ([.constantLong RX1 36 (5), .methodLink RX1 38 yX1_in, .static yX1_in, .initialized RX1, .code yX1_in cX1_in 6 (some .boolean)])
def wsX1_rem : List Cond := .code yX1_rem cX1_rem 4 (some .int) :: ([])
def wsX1_isPrime : List Cond := .code yX1_isPrime cX1_isPrime 3 (some .boolean) :: ([])
def wsX1_prime : List Cond := .code yX1_prime cX1_prime 2 (some .int) :: ([.fieldLink RX1 46 "TurningSumsModel" "root" "I", .methodLink RX1 62 yX1_isPrime, .static yX1_isPrime, .initialized RX1, .code yX1_isPrime cX1_isPrime 3 (some .boolean), .methodLink RX1 32 yX1_begin, .instanceMethod yX1_begin, .selects RX1 yX1_begin yX1_begin, .code yX1_begin cX1_begin 4 none, .fieldLink RX1 42 "TurningSumsModel" "p" "I", .fieldLink RX1 7 "TurningSumsModel" "index" "[I", .methodLink RX1 49 yX1_setDegree, .instanceMethod yX1_setDegree, .selects RX1 yX1_setDegree yX1_setDegree, .code yX1_setDegree cX1_setDegree 3 none, .fieldLink RX1 52 "TurningSumsModel" "d" "I", .fieldLink RX1 55 "TurningSumsModel" "phi" "I", .fieldLink RX1 13 "TurningSumsModel" "hold" "[J", .fieldLink RX1 17 "TurningSumsModel" "relation" "[I", .methodLink RX1 58 yX1_common, .static yX1_common, .code yX1_common cX1_common 5 (some .int)] ++ wsX10)
def wsX1_degree : List Cond := .code yX1_degree cX1_degree 2 (some .int) :: ([.constantLong RX1 66 (12), .fieldLink RX1 42 "TurningSumsModel" "p" "I", .fieldLink RX1 55 "TurningSumsModel" "phi" "I", .methodLink RX1 38 yX1_in, .static yX1_in, .initialized RX1, .code yX1_in cX1_in 6 (some .boolean), .methodLink RX1 49 yX1_setDegree, .instanceMethod yX1_setDegree, .selects RX1 yX1_setDegree yX1_setDegree, .code yX1_setDegree cX1_setDegree 3 none, .fieldLink RX1 52 "TurningSumsModel" "d" "I", .fieldLink RX1 13 "TurningSumsModel" "hold" "[J", .fieldLink RX1 17 "TurningSumsModel" "relation" "[I", .methodLink RX1 58 yX1_common, .static yX1_common, .code yX1_common cX1_common 5 (some .int)] ++ wsX10)
def wsX1_rest : List Cond := .code yX1_rest cX1_rest 4 (some .int) :: ([.fieldLink RX1 42 "TurningSumsModel" "p" "I", .fieldLink RX1 7 "TurningSumsModel" "index" "[I", .fieldLink RX1 52 "TurningSumsModel" "d" "I", .methodLink RX1 38 yX1_in, .static yX1_in, .initialized RX1, .code yX1_in cX1_in 6 (some .boolean), .methodLink RX1 68 yX1_rem, .static yX1_rem, .code yX1_rem cX1_rem 4 (some .int)] ++ wsX10)
def wsX1_classOf : List Cond := .code yX1_classOf cX1_classOf 2 (some .int) :: ([.fieldLink RX1 7 "TurningSumsModel" "index" "[I", .fieldLink RX1 52 "TurningSumsModel" "d" "I"] ++ wsX10)
def wsX1_meeting : List Cond := .code yX1_meeting cX1_meeting 5 (some .int) :: ([.fieldLink RX1 52 "TurningSumsModel" "d" "I", .fieldLink RX1 42 "TurningSumsModel" "p" "I", .methodLink RX1 38 yX1_in, .static yX1_in, .initialized RX1, .code yX1_in cX1_in 6 (some .boolean), .methodLink RX1 72 yX1_classOf, .instanceMethod yX1_classOf, .selects RX1 yX1_classOf yX1_classOf, .code yX1_classOf cX1_classOf 2 (some .int), .fieldLink RX1 7 "TurningSumsModel" "index" "[I"] ++ wsX10)
def wsX1_empty : List Cond := .code yX1_empty cX1_empty 2 none :: ([.fieldLink RX1 20 "TurningSumsModel" "work" "[J"] ++ wsX10)
def wsX1_reduce : List Cond := .code yX1_reduce cX1_reduce 5 none :: ([.fieldLink RX1 55 "TurningSumsModel" "phi" "I", .fieldLink RX1 20 "TurningSumsModel" "work" "[J", .fieldLink RX1 17 "TurningSumsModel" "relation" "[I"] ++ wsX10)
def wsX1_lay : List Cond := .code yX1_lay cX1_lay 3 (some .int) :: ([.fieldLink RX1 55 "TurningSumsModel" "phi" "I", .fieldLink RX1 20 "TurningSumsModel" "work" "[J", .constantLong RX1 76 (-100000000), .constantLong RX1 78 (100000000), .fieldLink RX1 13 "TurningSumsModel" "hold" "[J", .methodLink RX1 38 yX1_in, .static yX1_in, .initialized RX1, .code yX1_in cX1_in 6 (some .boolean)] ++ wsX10)
def wsX1_sum_r1 : List Cond := [Cond.fieldLink RX1 42 "TurningSumsModel" "p" "I", Cond.fieldLink RX1 20 "TurningSumsModel" "work" "[J", Cond.fieldLink RX1 52 "TurningSumsModel" "d" "I", Cond.methodLink RX1 80 yX1_isHold, Cond.static yX1_isHold, Cond.initialized RX1, Cond.code yX1_isHold cX1_isHold 1 (some .boolean), Cond.constantLong RX1 36 (5), Cond.methodLink RX1 38 yX1_in, Cond.static yX1_in, Cond.code yX1_in cX1_in 6 (some .boolean), Cond.methodLink RX1 83 yX1_empty, Cond.instanceMethod yX1_empty, Cond.selects RX1 yX1_empty yX1_empty, Cond.code yX1_empty cX1_empty 2 none, Cond.methodLink RX1 72 yX1_classOf, Cond.instanceMethod yX1_classOf, Cond.selects RX1 yX1_classOf yX1_classOf, Cond.code yX1_classOf cX1_classOf 2 (some .int), Cond.fieldLink RX1 7 "TurningSumsModel" "index" "[I", Cond.methodLink RX1 68 yX1_rem, Cond.static yX1_rem, Cond.code yX1_rem cX1_rem 4 (some .int), Cond.methodLink RX1 86 yX1_reduce]
def wsX1_sum_r2 : List Cond := [Cond.instanceMethod yX1_reduce, Cond.selects RX1 yX1_reduce yX1_reduce, Cond.code yX1_reduce cX1_reduce 5 none, Cond.fieldLink RX1 55 "TurningSumsModel" "phi" "I", Cond.fieldLink RX1 17 "TurningSumsModel" "relation" "[I", Cond.methodLink RX1 89 yX1_lay, Cond.instanceMethod yX1_lay, Cond.selects RX1 yX1_lay yX1_lay, Cond.code yX1_lay cX1_lay 3 (some .int), Cond.constantLong RX1 76 (-100000000), Cond.constantLong RX1 78 (100000000), Cond.fieldLink RX1 13 "TurningSumsModel" "hold" "[J"]
def wsX1_sum : List Cond := .code yX1_sum cX1_sum 7 (some .int) :: ((wsX1_sum_r1 ++ wsX1_sum_r2) ++ wsX10)
def wsX1_unit_r1 : List Cond := [Cond.constantLong RX1 92 (-1000), Cond.constantLong RX1 94 (1000), Cond.fieldLink RX1 20 "TurningSumsModel" "work" "[J", Cond.fieldLink RX1 52 "TurningSumsModel" "d" "I", Cond.methodLink RX1 80 yX1_isHold, Cond.static yX1_isHold, Cond.initialized RX1, Cond.code yX1_isHold cX1_isHold 1 (some .boolean), Cond.constantLong RX1 36 (5), Cond.methodLink RX1 38 yX1_in, Cond.static yX1_in, Cond.code yX1_in cX1_in 6 (some .boolean), Cond.methodLink RX1 83 yX1_empty, Cond.instanceMethod yX1_empty, Cond.selects RX1 yX1_empty yX1_empty, Cond.code yX1_empty cX1_empty 2 none, Cond.methodLink RX1 68 yX1_rem, Cond.static yX1_rem, Cond.code yX1_rem cX1_rem 4 (some .int), Cond.methodLink RX1 86 yX1_reduce, Cond.instanceMethod yX1_reduce, Cond.selects RX1 yX1_reduce yX1_reduce, Cond.code yX1_reduce cX1_reduce 5 none, Cond.fieldLink RX1 55 "TurningSumsModel" "phi" "I"]
def wsX1_unit_r2 : List Cond := [Cond.fieldLink RX1 17 "TurningSumsModel" "relation" "[I", Cond.methodLink RX1 89 yX1_lay, Cond.instanceMethod yX1_lay, Cond.selects RX1 yX1_lay yX1_lay, Cond.code yX1_lay cX1_lay 3 (some .int), Cond.constantLong RX1 76 (-100000000), Cond.constantLong RX1 78 (100000000), Cond.fieldLink RX1 13 "TurningSumsModel" "hold" "[J"]
def wsX1_unit : List Cond := .code yX1_unit cX1_unit 4 (some .int) :: ((wsX1_unit_r1 ++ wsX1_unit_r2) ++ wsX10)
def wsX1_times : List Cond := .code yX1_times cX1_times 6 none :: ([.fieldLink RX1 55 "TurningSumsModel" "phi" "I", .fieldLink RX1 20 "TurningSumsModel" "work" "[J", .fieldLink RX1 13 "TurningSumsModel" "hold" "[J", .methodLink RX1 83 yX1_empty, .instanceMethod yX1_empty, .selects RX1 yX1_empty yX1_empty, .initialized RX1, .code yX1_empty cX1_empty 2 none, .methodLink RX1 86 yX1_reduce, .instanceMethod yX1_reduce, .selects RX1 yX1_reduce yX1_reduce, .code yX1_reduce cX1_reduce 5 none, .fieldLink RX1 17 "TurningSumsModel" "relation" "[I"] ++ wsX10)
def wsX1_join_r1 : List Cond := [Cond.constantLong RX1 96 (2), Cond.fieldLink RX1 13 "TurningSumsModel" "hold" "[J", Cond.fieldLink RX1 55 "TurningSumsModel" "phi" "I", Cond.fieldLink RX1 20 "TurningSumsModel" "work" "[J", Cond.methodLink RX1 80 yX1_isHold, Cond.static yX1_isHold, Cond.initialized RX1, Cond.code yX1_isHold cX1_isHold 1 (some .boolean), Cond.constantLong RX1 36 (5), Cond.methodLink RX1 38 yX1_in, Cond.static yX1_in, Cond.code yX1_in cX1_in 6 (some .boolean), Cond.methodLink RX1 98 yX1_times, Cond.instanceMethod yX1_times, Cond.selects RX1 yX1_times yX1_times, Cond.code yX1_times cX1_times 6 none, Cond.methodLink RX1 83 yX1_empty, Cond.instanceMethod yX1_empty, Cond.selects RX1 yX1_empty yX1_empty, Cond.code yX1_empty cX1_empty 2 none, Cond.methodLink RX1 86 yX1_reduce, Cond.instanceMethod yX1_reduce, Cond.selects RX1 yX1_reduce yX1_reduce, Cond.code yX1_reduce cX1_reduce 5 none]
def wsX1_join_r2 : List Cond := [Cond.fieldLink RX1 17 "TurningSumsModel" "relation" "[I", Cond.methodLink RX1 89 yX1_lay, Cond.instanceMethod yX1_lay, Cond.selects RX1 yX1_lay yX1_lay, Cond.code yX1_lay cX1_lay 3 (some .int), Cond.constantLong RX1 76 (-100000000), Cond.constantLong RX1 78 (100000000)]
def wsX1_join : List Cond := .code yX1_join cX1_join 6 (some .int) :: ((wsX1_join_r1 ++ wsX1_join_r2) ++ wsX10)
def wsX1_turnOver : List Cond := .code yX1_turnOver cX1_turnOver 4 none :: ([.fieldLink RX1 55 "TurningSumsModel" "phi" "I", .fieldLink RX1 20 "TurningSumsModel" "work" "[J", .fieldLink RX1 52 "TurningSumsModel" "d" "I", .fieldLink RX1 13 "TurningSumsModel" "hold" "[J", .methodLink RX1 83 yX1_empty, .instanceMethod yX1_empty, .selects RX1 yX1_empty yX1_empty, .initialized RX1, .code yX1_empty cX1_empty 2 none, .methodLink RX1 68 yX1_rem, .static yX1_rem, .code yX1_rem cX1_rem 4 (some .int), .methodLink RX1 86 yX1_reduce, .instanceMethod yX1_reduce, .selects RX1 yX1_reduce yX1_reduce, .code yX1_reduce cX1_reduce 5 none, .fieldLink RX1 17 "TurningSumsModel" "relation" "[I"] ++ wsX10)
def wsX1_turn_r1 : List Cond := [Cond.fieldLink RX1 52 "TurningSumsModel" "d" "I", Cond.methodLink RX1 80 yX1_isHold, Cond.static yX1_isHold, Cond.initialized RX1, Cond.code yX1_isHold cX1_isHold 1 (some .boolean), Cond.constantLong RX1 36 (5), Cond.methodLink RX1 38 yX1_in, Cond.static yX1_in, Cond.code yX1_in cX1_in 6 (some .boolean), Cond.methodLink RX1 68 yX1_rem, Cond.static yX1_rem, Cond.code yX1_rem cX1_rem 4 (some .int), Cond.methodLink RX1 58 yX1_common, Cond.static yX1_common, Cond.code yX1_common cX1_common 5 (some .int), Cond.methodLink RX1 102 yX1_turnOver, Cond.instanceMethod yX1_turnOver, Cond.selects RX1 yX1_turnOver yX1_turnOver, Cond.code yX1_turnOver cX1_turnOver 4 none, Cond.fieldLink RX1 55 "TurningSumsModel" "phi" "I", Cond.fieldLink RX1 20 "TurningSumsModel" "work" "[J", Cond.fieldLink RX1 13 "TurningSumsModel" "hold" "[J", Cond.methodLink RX1 83 yX1_empty, Cond.instanceMethod yX1_empty]
def wsX1_turn_r2 : List Cond := [Cond.selects RX1 yX1_empty yX1_empty, Cond.code yX1_empty cX1_empty 2 none, Cond.methodLink RX1 86 yX1_reduce, Cond.instanceMethod yX1_reduce, Cond.selects RX1 yX1_reduce yX1_reduce, Cond.code yX1_reduce cX1_reduce 5 none, Cond.fieldLink RX1 17 "TurningSumsModel" "relation" "[I", Cond.methodLink RX1 89 yX1_lay, Cond.instanceMethod yX1_lay, Cond.selects RX1 yX1_lay yX1_lay, Cond.code yX1_lay cX1_lay 3 (some .int), Cond.constantLong RX1 76 (-100000000), Cond.constantLong RX1 78 (100000000)]
def wsX1_turn : List Cond := .code yX1_turn cX1_turn 4 (some .int) :: ((wsX1_turn_r1 ++ wsX1_turn_r2) ++ wsX10)
def wsX1_at : List Cond := .code yX1_at cX1_at 3 (some .int) :: ([.fieldLink RX1 55 "TurningSumsModel" "phi" "I", .fieldLink RX1 13 "TurningSumsModel" "hold" "[J", .constant RX1 106 (-2147483648), .methodLink RX1 80 yX1_isHold, .static yX1_isHold, .initialized RX1, .code yX1_isHold cX1_isHold 1 (some .boolean), .constantLong RX1 36 (5), .methodLink RX1 38 yX1_in, .static yX1_in, .code yX1_in cX1_in 6 (some .boolean)] ++ wsX10)
def wsX1_same : List Cond := .code yX1_same cX1_same 5 (some .int) :: ([.fieldLink RX1 13 "TurningSumsModel" "hold" "[J", .methodLink RX1 80 yX1_isHold, .static yX1_isHold, .initialized RX1, .code yX1_isHold cX1_isHold 1 (some .boolean), .constantLong RX1 36 (5), .methodLink RX1 38 yX1_in, .static yX1_in, .code yX1_in cX1_in 6 (some .boolean)] ++ wsX10)
def wsX1_size_r1 : List Cond := [Cond.constantLong RX1 107 (-9223372036854775808), Cond.fieldLink RX1 52 "TurningSumsModel" "d" "I", Cond.fieldLink RX1 23 "TurningSumsModel" "turned" "[J", Cond.fieldLink RX1 20 "TurningSumsModel" "work" "[J", Cond.fieldLink RX1 55 "TurningSumsModel" "phi" "I", Cond.methodLink RX1 80 yX1_isHold, Cond.static yX1_isHold, Cond.initialized RX1, Cond.code yX1_isHold cX1_isHold 1 (some .boolean), Cond.constantLong RX1 36 (5), Cond.methodLink RX1 38 yX1_in, Cond.static yX1_in, Cond.code yX1_in cX1_in 6 (some .boolean), Cond.methodLink RX1 102 yX1_turnOver, Cond.instanceMethod yX1_turnOver, Cond.selects RX1 yX1_turnOver yX1_turnOver, Cond.code yX1_turnOver cX1_turnOver 4 none, Cond.fieldLink RX1 13 "TurningSumsModel" "hold" "[J", Cond.methodLink RX1 83 yX1_empty, Cond.instanceMethod yX1_empty, Cond.selects RX1 yX1_empty yX1_empty, Cond.code yX1_empty cX1_empty 2 none, Cond.methodLink RX1 68 yX1_rem, Cond.static yX1_rem]
def wsX1_size_r2 : List Cond := [Cond.code yX1_rem cX1_rem 4 (some .int), Cond.methodLink RX1 86 yX1_reduce, Cond.instanceMethod yX1_reduce, Cond.selects RX1 yX1_reduce yX1_reduce, Cond.code yX1_reduce cX1_reduce 5 none, Cond.fieldLink RX1 17 "TurningSumsModel" "relation" "[I", Cond.methodLink RX1 98 yX1_times, Cond.instanceMethod yX1_times, Cond.selects RX1 yX1_times yX1_times, Cond.code yX1_times cX1_times 6 none]
def wsX1_size : List Cond := .code yX1_size cX1_size 4 (some .long) :: ((wsX1_size_r1 ++ wsX1_size_r2) ++ wsX10)
def wsX1_power : List Cond := .code yX1_power cX1_power 4 (some .int) :: ([.fieldLink RX1 52 "TurningSumsModel" "d" "I", .fieldLink RX1 42 "TurningSumsModel" "p" "I"] ++ wsX10)
def wsX1_solutions : List Cond := .code yX1_solutions cX1_solutions 8 (some .int) :: ([.fieldLink RX1 42 "TurningSumsModel" "p" "I", .methodLink RX1 68 yX1_rem, .static yX1_rem, .initialized RX1, .code yX1_rem cX1_rem 4 (some .int), .methodLink RX1 109 yX1_power, .instanceMethod yX1_power, .selects RX1 yX1_power yX1_power, .code yX1_power cX1_power 4 (some .int), .fieldLink RX1 52 "TurningSumsModel" "d" "I"] ++ wsX10)
def wsX1_rows : List Cond := .code yX1_rows cX1_rows 7 (some .long) :: ([.constantLong RX1 112 (6), .constantLong RX1 114 (-3), .fieldLink RX1 42 "TurningSumsModel" "p" "I", .fieldLink RX1 26 "TurningSumsModel" "ways" "[J", .fieldLink RX1 29 "TurningSumsModel" "next" "[J", .methodLink RX1 38 yX1_in, .static yX1_in, .initialized RX1, .code yX1_in cX1_in 6 (some .boolean), .methodLink RX1 72 yX1_classOf, .instanceMethod yX1_classOf, .selects RX1 yX1_classOf yX1_classOf, .code yX1_classOf cX1_classOf 2 (some .int), .fieldLink RX1 7 "TurningSumsModel" "index" "[I", .fieldLink RX1 52 "TurningSumsModel" "d" "I", .methodLink RX1 68 yX1_rem, .static yX1_rem, .code yX1_rem cX1_rem 4 (some .int)] ++ wsX10)
def wsX1_signOf : List Cond := .code yX1_signOf cX1_signOf 4 (some .int) :: ([.methodLink RX1 72 yX1_classOf, .instanceMethod yX1_classOf, .selects RX1 yX1_classOf yX1_classOf, .initialized RX1, .code yX1_classOf cX1_classOf 2 (some .int), .fieldLink RX1 7 "TurningSumsModel" "index" "[I", .fieldLink RX1 52 "TurningSumsModel" "d" "I"] ++ wsX10)
def wsX1_overOf : List Cond := .code yX1_overOf cX1_overOf 6 (some .int) :: ([.fieldLink RX1 42 "TurningSumsModel" "p" "I", .methodLink RX1 116 yX1_signOf, .instanceMethod yX1_signOf, .selects RX1 yX1_signOf yX1_signOf, .initialized RX1, .code yX1_signOf cX1_signOf 4 (some .int), .methodLink RX1 72 yX1_classOf, .instanceMethod yX1_classOf, .selects RX1 yX1_classOf yX1_classOf, .code yX1_classOf cX1_classOf 2 (some .int), .fieldLink RX1 7 "TurningSumsModel" "index" "[I", .fieldLink RX1 52 "TurningSumsModel" "d" "I"] ++ wsX10)
def wsX1_isSet : List Cond := .code yX1_isSet cX1_isSet 2 (some .boolean) :: ([.fieldLink RX1 52 "TurningSumsModel" "d" "I", .methodLink RX1 38 yX1_in, .static yX1_in, .initialized RX1, .code yX1_in cX1_in 6 (some .boolean)] ++ wsX10)
def wsX1_isSign : List Cond := .code yX1_isSign cX1_isSign 1 (some .boolean) :: ([])
def wsX1_over_r1 : List Cond := [Cond.constant RX1 106 (-2147483648), Cond.fieldLink RX1 42 "TurningSumsModel" "p" "I", Cond.methodLink RX1 120 yX1_isSet, Cond.instanceMethod yX1_isSet, Cond.selects RX1 yX1_isSet yX1_isSet, Cond.initialized RX1, Cond.code yX1_isSet cX1_isSet 2 (some .boolean), Cond.fieldLink RX1 52 "TurningSumsModel" "d" "I", Cond.methodLink RX1 38 yX1_in, Cond.static yX1_in, Cond.code yX1_in cX1_in 6 (some .boolean), Cond.methodLink RX1 123 yX1_isSign, Cond.static yX1_isSign, Cond.code yX1_isSign cX1_isSign 1 (some .boolean), Cond.methodLink RX1 68 yX1_rem, Cond.static yX1_rem, Cond.code yX1_rem cX1_rem 4 (some .int), Cond.methodLink RX1 126 yX1_overOf, Cond.instanceMethod yX1_overOf, Cond.selects RX1 yX1_overOf yX1_overOf, Cond.code yX1_overOf cX1_overOf 6 (some .int), Cond.methodLink RX1 116 yX1_signOf, Cond.instanceMethod yX1_signOf, Cond.selects RX1 yX1_signOf yX1_signOf]
def wsX1_over_r2 : List Cond := [Cond.code yX1_signOf cX1_signOf 4 (some .int), Cond.methodLink RX1 72 yX1_classOf, Cond.instanceMethod yX1_classOf, Cond.selects RX1 yX1_classOf yX1_classOf, Cond.code yX1_classOf cX1_classOf 2 (some .int), Cond.fieldLink RX1 7 "TurningSumsModel" "index" "[I"]
def wsX1_over : List Cond := .code yX1_over cX1_over 4 (some .int) :: ((wsX1_over_r1 ++ wsX1_over_r2) ++ wsX10)
def wsX1_peak_r1 : List Cond := [Cond.fieldLink RX1 42 "TurningSumsModel" "p" "I", Cond.methodLink RX1 120 yX1_isSet, Cond.instanceMethod yX1_isSet, Cond.selects RX1 yX1_isSet yX1_isSet, Cond.initialized RX1, Cond.code yX1_isSet cX1_isSet 2 (some .boolean), Cond.fieldLink RX1 52 "TurningSumsModel" "d" "I", Cond.methodLink RX1 38 yX1_in, Cond.static yX1_in, Cond.code yX1_in cX1_in 6 (some .boolean), Cond.methodLink RX1 123 yX1_isSign, Cond.static yX1_isSign, Cond.code yX1_isSign cX1_isSign 1 (some .boolean), Cond.methodLink RX1 126 yX1_overOf, Cond.instanceMethod yX1_overOf, Cond.selects RX1 yX1_overOf yX1_overOf, Cond.code yX1_overOf cX1_overOf 6 (some .int), Cond.methodLink RX1 116 yX1_signOf, Cond.instanceMethod yX1_signOf, Cond.selects RX1 yX1_signOf yX1_signOf, Cond.code yX1_signOf cX1_signOf 4 (some .int), Cond.methodLink RX1 72 yX1_classOf, Cond.instanceMethod yX1_classOf, Cond.selects RX1 yX1_classOf yX1_classOf]
def wsX1_peak_r2 : List Cond := [Cond.code yX1_classOf cX1_classOf 2 (some .int), Cond.fieldLink RX1 7 "TurningSumsModel" "index" "[I"]
def wsX1_peak : List Cond := .code yX1_peak cX1_peak 6 (some .int) :: ((wsX1_peak_r1 ++ wsX1_peak_r2) ++ wsX10)
def wsX1_even : List Cond := .code yX1_even cX1_even 7 (some .int) :: ([.fieldLink RX1 42 "TurningSumsModel" "p" "I", .methodLink RX1 120 yX1_isSet, .instanceMethod yX1_isSet, .selects RX1 yX1_isSet yX1_isSet, .initialized RX1, .code yX1_isSet cX1_isSet 2 (some .boolean), .fieldLink RX1 52 "TurningSumsModel" "d" "I", .methodLink RX1 38 yX1_in, .static yX1_in, .code yX1_in cX1_in 6 (some .boolean), .methodLink RX1 72 yX1_classOf, .instanceMethod yX1_classOf, .selects RX1 yX1_classOf yX1_classOf, .code yX1_classOf cX1_classOf 2 (some .int), .fieldLink RX1 7 "TurningSumsModel" "index" "[I"] ++ wsX10)
def wsX1_classes : List Cond := .code yX1_classes cX1_classes 7 (some .int) :: ([.fieldLink RX1 42 "TurningSumsModel" "p" "I", .fieldLink RX1 7 "TurningSumsModel" "index" "[I", .methodLink RX1 38 yX1_in, .static yX1_in, .initialized RX1, .code yX1_in cX1_in 6 (some .boolean)] ++ wsX10)
def wsX1_count : List Cond := .code yX1_count cX1_count 2 (some .int) :: ([.fieldLink RX1 42 "TurningSumsModel" "p" "I", .fieldLink RX1 46 "TurningSumsModel" "root" "I", .fieldLink RX1 52 "TurningSumsModel" "d" "I", .fieldLink RX1 55 "TurningSumsModel" "phi" "I"] ++ wsX10)
def wsJ9_abs_0f7a4 : List Cond := .code yJ9_abs_0f7a4 cJ9_abs_0f7a4 1 (some .int) :: ([])
def wsJ9_max_7cf53 : List Cond := .code yJ9_max_7cf53 cJ9_max_7cf53 2 (some .int) :: ([])
abbrev vwCl : List vw_C := [(RX0, TX0, 12), (RX1, TX1, 11)]
