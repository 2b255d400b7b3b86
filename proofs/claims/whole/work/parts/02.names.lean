/-! NAMES, printed by wip/gen/gen.py out of the tables, javap's listing and the skeleton -/
def fT_T : u_T := fun k => match k with
  | 0 => ("CircuitTwin", "first", "LCircuitTwin$Circuit;", true)
  | 1 => ("CircuitTwin", "second", "LCircuitTwin$Circuit;", true)
  | 2 => ("CircuitTwin", "reader", "LCircuitTwin$Reader;", true)
  | _ => ("CircuitTwin", "writer", "LCircuitTwin$Writer;", true)
def fy_T : Nat → FieldType := fun k => match k with
  | 0 => .object "CircuitTwin$Circuit"
  | 1 => .object "CircuitTwin$Circuit"
  | 2 => .object "CircuitTwin$Reader"
  | _ => .object "CircuitTwin$Writer"
def fT_C : u_T := fun k => match k with
  | 0 => ("CircuitTwin$Circuit", "net", "LCircuitTwin$Net;", false)
  | 1 => ("CircuitTwin$Circuit", "error", "I", false)
  | 2 => ("CircuitTwin$Circuit", "place", "I", false)
  | 3 => ("CircuitTwin$Circuit", "kinds", "I", false)
  | 4 => ("CircuitTwin$Circuit", "rows", "[J", true)
  | 5 => ("CircuitTwin$Circuit", "hashes", "[J", true)
  | 6 => ("CircuitTwin$Circuit", "leaders", "[I", true)
  | 7 => ("CircuitTwin$Circuit", "buckets", "[I", true)
  | 8 => ("CircuitTwin$Circuit", "words", "I", false)
  | _ => ("CircuitTwin$Circuit", "mask", "J", false)
def fy_C : Nat → FieldType := fun k => match k with
  | 0 => .object "CircuitTwin$Net"
  | 1 => .int
  | 2 => .int
  | 3 => .int
  | 4 => .array .long
  | 5 => .array .long
  | 6 => .array .int
  | 7 => .array .int
  | 8 => .int
  | _ => .long
def fT_F : u_T := fun k => match k with
  | 0 => ("CircuitTwin$LoopFinder", "trail", "[I", true)
  | 1 => ("CircuitTwin$LoopFinder", "reachedFrom", "[I", true)
  | _ => ("CircuitTwin$LoopFinder", "reached", "I", false)
def fy_F : Nat → FieldType := fun k => match k with
  | 0 => .array .int
  | 1 => .array .int
  | _ => .int
def fT_N : u_T := fun k => match k with
  | 0 => ("CircuitTwin$Net", "slotOf", "[I", true)
  | 1 => ("CircuitTwin$Net", "own", "[I", true)
  | 2 => ("CircuitTwin$Net", "left", "[I", true)
  | 3 => ("CircuitTwin$Net", "right", "[I", true)
  | 4 => ("CircuitTwin$Net", "outputLiterals", "[I", true)
  | 5 => ("CircuitTwin$Net", "depth", "[I", true)
  | 6 => ("CircuitTwin$Net", "order", "[I", true)
  | 7 => ("CircuitTwin$Net", "waiting", "[I", true)
  | 8 => ("CircuitTwin$Net", "waitingCount", "I", false)
  | 9 => ("CircuitTwin$Net", "largest", "I", false)
  | 10 => ("CircuitTwin$Net", "inputs", "I", false)
  | 11 => ("CircuitTwin$Net", "gates", "I", false)
  | _ => ("CircuitTwin$Net", "outputs", "I", false)
def fy_N : Nat → FieldType := fun k => match k with
  | 0 => .array .int
  | 1 => .array .int
  | 2 => .array .int
  | 3 => .array .int
  | 4 => .array .int
  | 5 => .array .int
  | 6 => .array .int
  | 7 => .array .int
  | 8 => .int
  | 9 => .int
  | 10 => .int
  | 11 => .int
  | _ => .int
def fT_R : u_T := fun k => match k with
  | 0 => ("CircuitTwin$Reader", "length", "I", false)
  | 1 => ("CircuitTwin$Reader", "error", "I", false)
  | 2 => ("CircuitTwin$Reader", "place", "I", false)
  | 3 => ("CircuitTwin$Reader", "bytes", "[B", true)
  | 4 => ("CircuitTwin$Reader", "numbers", "[I", true)
  | 5 => ("CircuitTwin$Reader", "starts", "[I", true)
  | 6 => ("CircuitTwin$Reader", "loops", "LCircuitTwin$LoopFinder;", true)
  | 7 => ("CircuitTwin$Reader", "net", "LCircuitTwin$Net;", false)
  | 8 => ("CircuitTwin$Reader", "position", "I", false)
  | _ => ("CircuitTwin$Reader", "binary", "Z", false)
def fy_R : Nat → FieldType := fun k => match k with
  | 0 => .int
  | 1 => .int
  | 2 => .int
  | 3 => .array .byte
  | 4 => .array .int
  | 5 => .array .int
  | 6 => .object "CircuitTwin$LoopFinder"
  | 7 => .object "CircuitTwin$Net"
  | 8 => .int
  | _ => .boolean
def fT_W : u_T := fun k => match k with
  | 0 => ("CircuitTwin$Writer", "length", "I", false)
  | 1 => ("CircuitTwin$Writer", "bytes", "[B", true)
  | 2 => ("CircuitTwin$Writer", "depth", "[I", true)
  | 3 => ("CircuitTwin$Writer", "needed", "[Z", true)
  | 4 => ("CircuitTwin$Writer", "number", "[I", true)
  | 5 => ("CircuitTwin$Writer", "slotOfNumber", "[I", true)
  | 6 => ("CircuitTwin$Writer", "nextOfDepth", "[I", true)
  | 7 => ("CircuitTwin$Writer", "reduced", "Z", false)
  | _ => ("CircuitTwin$Writer", "gates", "I", false)
def fy_W : Nat → FieldType := fun k => match k with
  | 0 => .int
  | 1 => .array .byte
  | 2 => .array .int
  | 3 => .array .boolean
  | 4 => .array .int
  | 5 => .array .int
  | 6 => .array .int
  | 7 => .boolean
  | _ => .int
def fT_M : u_T := fun k => match k with
  | 0 => ("CircuitTwinModel", "thrown", "I", false)
  | 1 => ("CircuitTwinModel", "tape", "[B", true)
  | 2 => ("CircuitTwinModel", "tapeSize", "I", false)
  | 3 => ("CircuitTwinModel", "out", "[B", true)
  | 4 => ("CircuitTwinModel", "outSize", "I", false)
  | 5 => ("CircuitTwinModel", "inputs", "[I", true)
  | 6 => ("CircuitTwinModel", "gates", "[I", true)
  | 7 => ("CircuitTwinModel", "outputs", "[I", true)
  | 8 => ("CircuitTwinModel", "most", "[I", true)
  | 9 => ("CircuitTwinModel", "error", "[I", true)
  | 10 => ("CircuitTwinModel", "place", "[I", true)
  | 11 => ("CircuitTwinModel", "inputLiteral", "[I", true)
  | 12 => ("CircuitTwinModel", "own", "[I", true)
  | 13 => ("CircuitTwinModel", "left", "[I", true)
  | 14 => ("CircuitTwinModel", "right", "[I", true)
  | 15 => ("CircuitTwinModel", "outputLiteral", "[I", true)
  | 16 => ("CircuitTwinModel", "rowOf", "[I", true)
  | 17 => ("CircuitTwinModel", "depth", "[I", true)
  | 18 => ("CircuitTwinModel", "order", "[I", true)
  | 19 => ("CircuitTwinModel", "table", "[J", true)
  | 20 => ("CircuitTwinModel", "at", "I", false)
  | 21 => ("CircuitTwinModel", "wrong", "I", false)
  | 22 => ("CircuitTwinModel", "wrongAt", "I", false)
  | 23 => ("CircuitTwinModel", "numbers", "[I", true)
  | 24 => ("CircuitTwinModel", "begins", "[I", true)
  | 25 => ("CircuitTwinModel", "reached", "[Z", true)
  | 26 => ("CircuitTwinModel", "become", "[I", true)
  | 27 => ("CircuitTwinModel", "newDepth", "[I", true)
  | 28 => ("CircuitTwinModel", "number", "[I", true)
  | _ => ("CircuitTwinModel", "used", "[Z", true)
def fy_M : Nat → FieldType := fun k => match k with
  | 0 => .int
  | 1 => .array .byte
  | 2 => .int
  | 3 => .array .byte
  | 4 => .int
  | 5 => .array .int
  | 6 => .array .int
  | 7 => .array .int
  | 8 => .array .int
  | 9 => .array .int
  | 10 => .array .int
  | 11 => .array .int
  | 12 => .array .int
  | 13 => .array .int
  | 14 => .array .int
  | 15 => .array .int
  | 16 => .array .int
  | 17 => .array .int
  | 18 => .array .int
  | 19 => .array .long
  | 20 => .int
  | 21 => .int
  | 22 => .int
  | 23 => .array .int
  | 24 => .array .int
  | 25 => .array .boolean
  | 26 => .array .int
  | 27 => .array .int
  | 28 => .array .int
  | _ => .array .boolean
abbrev vwCl : List vw_C := [("CircuitTwin", fT_T, 4), ("CircuitTwin$Circuit", fT_C, 10), ("CircuitTwin$LoopFinder", fT_F, 3), ("CircuitTwin$Net", fT_N, 13), ("CircuitTwin$Reader", fT_R, 10), ("CircuitTwin$Writer", fT_W, 9), ("CircuitTwinModel", fT_M, 30)]
def mj_nf (ci : Nat) : Nat := match ci with
  | 0 => 4
  | 1 => 10
  | 2 => 3
  | 3 => 13
  | 4 => 10
  | 5 => 9
  | 6 => 30
  | _ => 0
def mj_kd (ci k : Nat) : Nat := match ci with
  | 0 => ([1, 1, 1, 1] : List Nat).getD k 0
  | 1 => ([1, 0, 0, 0, 1, 1, 1, 1, 0, 2] : List Nat).getD k 0
  | 2 => ([1, 1, 0] : List Nat).getD k 0
  | 3 => ([1, 1, 1, 1, 1, 1, 1, 1, 0, 0, 0, 0, 0] : List Nat).getD k 0
  | 4 => ([0, 0, 0, 1, 1, 1, 1, 1, 0, 0] : List Nat).getD k 0
  | 5 => ([0, 1, 1, 1, 1, 1, 1, 0, 0] : List Nat).getD k 0
  | 6 => ([0, 1, 0, 1, 0, 1, 1, 1, 1, 1, 1, 1, 1, 1, 1, 1, 1, 1, 1, 1, 0, 0, 0, 1, 1, 1, 1, 1, 1, 1] : List Nat).getD k 0
  | _ => 0
def mj_xn (k : Nat) : String := match k with
  | 0 => "java/lang/IllegalArgumentException"
  | 1 => "java/lang/IllegalStateException"
  | _ => "java/util/NoSuchElementException"
def mj_wn : List (String × Nat × MethodName × String) := [("CircuitTwin", 11, ⟨"CircuitTwin$Circuit", "<init>", "()V"⟩, "CircuitTwin"), ("CircuitTwin", 24, ⟨"CircuitTwin$Reader", "<init>", "()V"⟩, "CircuitTwin"), ("CircuitTwin$Reader", 24, ⟨"CircuitTwin$LoopFinder", "<init>", "()V"⟩, "CircuitTwin"), ("CircuitTwin", 31, ⟨"CircuitTwin$Writer", "<init>", "()V"⟩, "CircuitTwin")]
def mj_wr : List (String × Nat × String) := [("CircuitTwin", 38, "n is not 1 .. 8"), ("CircuitTwin", 49, "the tape would be too long"), ("CircuitTwin", 174, "no such circuit"), ("CircuitTwin", 99, "no such input, gate or output"), ("CircuitTwin", 180, "no such literal"), ("CircuitTwin", 182, "no such vector"), ("CircuitTwin", 186, "the circuits do not match"), ("CircuitTwin", 120, "not both have this output"), ("CircuitTwin", 184, "no such input"), ("CircuitTwin", 160, "no such byte"), ("CircuitTwin", 172, "no such what")]
def mj_tw : List (Cond × Bool) := [(.declares ⟨"java/lang/RuntimeException", "<init>", "(Ljava/lang/String;)V"⟩, true), (.declares ⟨"java/lang/Exception", "<init>", "(Ljava/lang/String;)V"⟩, true), (.declares ⟨"java/lang/Throwable", "<init>", "(Ljava/lang/String;)V"⟩, true), (.castable "java/lang/IllegalArgumentException" "java/lang/IllegalArgumentException", true), (.castable "java/lang/IllegalArgumentException" "java/lang/IllegalStateException", false), (.castable "java/lang/IllegalArgumentException" "java/util/NoSuchElementException", false), (.castable "java/lang/IllegalStateException" "java/lang/IllegalArgumentException", false), (.castable "java/lang/IllegalStateException" "java/lang/IllegalStateException", true), (.castable "java/lang/IllegalStateException" "java/util/NoSuchElementException", false), (.castable "java/util/NoSuchElementException" "java/lang/IllegalArgumentException", false), (.castable "java/util/NoSuchElementException" "java/lang/IllegalStateException", false), (.castable "java/util/NoSuchElementException" "java/util/NoSuchElementException", true)]
def mj_iw (i : Nat) : BitVec 64 := match i with
  | 0 => 0xAAAAAAAAAAAAAAAA#64
  | 1 => 0xCCCCCCCCCCCCCCCC#64
  | 2 => 0xF0F0F0F0F0F0F0F0#64
  | 3 => 0xFF00FF00FF00FF00#64
  | 4 => 0xFFFF0000FFFF0000#64
  | _ => 0xFFFFFFFF00000000#64
def mj_ixC : String := "CircuitTwin$Circuit"
def mj_ixN : String := "INPUT_WORDS"
def mj_ixD : String := "[J"
def mj_Sx (tb : Nat) (A : Nat → Prop) (s : State) : Prop := va_Z mj_ixC mj_ixN mj_ixD (.ref tb) A s s.heap ∧ va_T .long tb 6 (fun j => .long (Int64.ofBitVec (mj_iw j))) A s s.heap
theorem mj_Sx_move {tb : Nat} {A A' : Nat → Prop} {s U : State} (h : mj_Sx tb A s) (hk : ∀ q : Nat, q < s.heap.size → ¬ A q → U.heap[q]? = s.heap[q]?) (hv : s.vm.Alike U.vm) (hA : ∀ q, A' q → A q) : mj_Sx tb A' U :=
  ⟨((h.1.kept hk).narrow hA).moved hv, ((h.2.kept hk).narrow hA).moved hv⟩
def m_T_init : mj_M := (⟨"CircuitTwin", "<init>", "()V"⟩, prog_1_method_1_code, 1, none, { frames := 5, cells := 51, slots := 186751, locals := 119 }, [], 0, fun _ => 0)
def m_C_init : mj_M := (⟨"CircuitTwin$Circuit", "<init>", "()V"⟩, prog_2_method_1_code, 1, none, { frames := 3, cells := 13, slots := 84672, locals := 67 }, [], 0, fun _ => 0)
def m_N_init : mj_M := (⟨"CircuitTwin$Net", "<init>", "()V"⟩, prog_4_method_1_code, 1, none, { frames := 2, cells := 8, slots := 2877, locals := 47 }, [], 0, fun _ => 0)
def m_N_begin : mj_M := (⟨"CircuitTwin$Net", "begin", "(IIII)V"⟩, prog_4_method_2_code, 5, none, { frames := 1, cells := 0, slots := 0, locals := 23 }, [], 0, fun _ => 0)
def m_A_fill : mj_M := (⟨"java/util/Arrays", "fill", "([II)V"⟩, prog_18_method_103_code, 4, none, { frames := 0, cells := 0, slots := 0, locals := 0 }, [], 0, fun _ => 0)
def m_C_settle : mj_M := (⟨"CircuitTwin$Circuit", "settle", "()V"⟩, prog_2_method_2_code, 3, none, { frames := 4, cells := 0, slots := 0, locals := 97 }, [], 0, fun _ => 0)
def m_C_enter : mj_M := (⟨"CircuitTwin$Circuit", "enter", "(I)V"⟩, prog_2_method_5_code, 4, none, { frames := 3, cells := 0, slots := 0, locals := 74 }, [], 0, fun _ => 0)
def m_C_hashOf : mj_M := (⟨"CircuitTwin$Circuit", "hashOf", "(I)J"⟩, prog_2_method_6_code, 8, some .long, { frames := 1, cells := 0, slots := 0, locals := 21 }, [], 0, fun _ => 0)
def m_C_startBit : mj_M := (⟨"CircuitTwin$Circuit", "startBit", "(I)I"⟩, prog_2_method_11_code, 2, some .int, { frames := 0, cells := 0, slots := 0, locals := 0 }, [], 0, fun _ => 0)
def m_C_bucketFor : mj_M := (⟨"CircuitTwin$Circuit", "bucketFor", "(LCircuitTwin$Circuit;I)I"⟩, prog_2_method_7_code, 6, some .int, { frames := 2, cells := 0, slots := 0, locals := 49 }, [], 0, fun _ => 0)
def m_C_isSameOrInverse : mj_M := (⟨"CircuitTwin$Circuit", "isSameOrInverse", "(ILCircuitTwin$Circuit;I)Z"⟩, prog_2_method_8_code, 9, some .boolean, { frames := 1, cells := 0, slots := 0, locals := 21 }, [], 0, fun _ => 0)
def m_C_fillInput : mj_M := (⟨"CircuitTwin$Circuit", "fillInput", "(I)V"⟩, prog_2_method_3_code, 4, none, { frames := 0, cells := 0, slots := 0, locals := 0 }, [], 0, fun _ => 0)
def m_C_fillGate : mj_M := (⟨"CircuitTwin$Circuit", "fillGate", "(I)V"⟩, prog_2_method_4_code, 10, none, { frames := 2, cells := 0, slots := 0, locals := 42 }, [], 0, fun _ => 0)
def m_C_rowOf : mj_M := (⟨"CircuitTwin$Circuit", "rowOf", "(I)I"⟩, prog_2_method_12_code, 2, some .int, { frames := 1, cells := 0, slots := 0, locals := 21 }, [], 0, fun _ => 0)
def m_N_slotFor : mj_M := (⟨"CircuitTwin$Net", "slotFor", "(I)I"⟩, prog_4_method_6_code, 2, some .int, { frames := 0, cells := 0, slots := 0, locals := 0 }, [], 0, fun _ => 0)
def m_C_flipOf : mj_M := (⟨"CircuitTwin$Circuit", "flipOf", "(I)J"⟩, prog_2_method_13_code, 2, some .long, { frames := 0, cells := 0, slots := 0, locals := 0 }, [], 0, fun _ => 0)
def m_R_init : mj_M := (⟨"CircuitTwin$Reader", "<init>", "()V"⟩, prog_5_method_1_code, 1, none, { frames := 3, cells := 15, slots := 11710, locals := 67 }, [], 0, fun _ => 0)
def m_F_init : mj_M := (⟨"CircuitTwin$LoopFinder", "<init>", "()V"⟩, prog_3_method_1_code, 1, none, { frames := 1, cells := 2, slots := 615, locals := 20 }, [], 0, fun _ => 0)
def m_W_init : mj_M := (⟨"CircuitTwin$Writer", "<init>", "()V"⟩, prog_6_method_1_code, 1, none, { frames := 1, cells := 6, slots := 5658, locals := 20 }, [], 0, fun _ => 0)
def m_L_feed : mj_M := (⟨"CircuitTwinLaw", "feed", "(LCircuitTwin;IJ[J)I"⟩, method_3_code, 6, some .int, { frames := 7, cells := 2, slots := 12, locals := 124 }, [(0, 11, 14, 13), (0, 11, 18, 15)], 0, fun _ => 0)
def m_T_feed : mj_M := (⟨"CircuitTwin", "feed", "(IJ)I"⟩, prog_1_method_2_code, 5, some .int, { frames := 6, cells := 2, slots := 12, locals := 100 }, [], 0, fun _ => 0)
def m_R_append : mj_M := (⟨"CircuitTwin$Reader", "append", "(B)V"⟩, prog_5_method_2_code, 2, none, { frames := 0, cells := 0, slots := 0, locals := 0 }, [], 0, fun _ => 0)
def m_L_load : mj_M := (⟨"CircuitTwinLaw", "load", "(LCircuitTwin;I[J)I"⟩, method_4_code, 4, some .int, { frames := 8, cells := 1, slots := 6, locals := 156 }, [(0, 9, 12, 13)], 0, fun _ => 0)
def m_T_load : mj_M := (⟨"CircuitTwin", "load", "(I)I"⟩, prog_1_method_3_code, 3, some .int, { frames := 7, cells := 1, slots := 6, locals := 134 }, [], 0, fun _ => 0)
def m_T_named : mj_M := (⟨"CircuitTwin", "named", "(I)LCircuitTwin$Circuit;"⟩, prog_1_method_20_code, 2, some ((.object "CircuitTwin$Circuit")), { frames := 6, cells := 1, slots := 6, locals := 100 }, [], 0, fun _ => 0)
def m_R_readTape : mj_M := (⟨"CircuitTwin$Reader", "readTape", "()V"⟩, prog_5_method_3_code, 1, none, { frames := 5, cells := 0, slots := 0, locals := 114 }, [], 0, fun _ => 0)
def m_R_takeKind : mj_M := (⟨"CircuitTwin$Reader", "takeKind", "()Z"⟩, prog_5_method_7_code, 3, some .boolean, { frames := 1, cells := 0, slots := 0, locals := 22 }, [], 0, fun _ => 0)
def m_R_byteAt : mj_M := (⟨"CircuitTwin$Reader", "byteAt", "(I)I"⟩, prog_5_method_6_code, 2, some .int, { frames := 0, cells := 0, slots := 0, locals := 0 }, [], 0, fun _ => 0)
def m_R_fail : mj_M := (⟨"CircuitTwin$Reader", "fail", "(II)Z"⟩, prog_5_method_5_code, 3, some .boolean, { frames := 0, cells := 0, slots := 0, locals := 0 }, [], 0, fun _ => 0)
def m_R_takeSizes : mj_M := (⟨"CircuitTwin$Reader", "takeSizes", "()Z"⟩, prog_5_method_8_code, 5, some .boolean, { frames := 3, cells := 0, slots := 0, locals := 71 }, [], 0, fun _ => 0)
def m_R_takeLine : mj_M := (⟨"CircuitTwin$Reader", "takeLine", "(II)Z"⟩, prog_5_method_16_code, 4, some .boolean, { frames := 2, cells := 0, slots := 0, locals := 48 }, [], 0, fun _ => 0)
def m_R_takeNumber : mj_M := (⟨"CircuitTwin$Reader", "takeNumber", "(III)Z"⟩, prog_5_method_17_code, 7, some .boolean, { frames := 1, cells := 0, slots := 0, locals := 22 }, [], 0, fun _ => 0)
def m_R_takeInputs : mj_M := (⟨"CircuitTwin$Reader", "takeInputs", "()Z"⟩, prog_5_method_9_code, 2, some .boolean, { frames := 3, cells := 0, slots := 0, locals := 71 }, [], 0, fun _ => 0)
def m_N_place : mj_M := (⟨"CircuitTwin$Net", "place", "(II)V"⟩, prog_4_method_8_code, 3, none, { frames := 0, cells := 0, slots := 0, locals := 0 }, [], 0, fun _ => 0)
def m_R_takeOwn : mj_M := (⟨"CircuitTwin$Reader", "takeOwn", "(I)Z"⟩, prog_5_method_18_code, 2, some .boolean, { frames := 2, cells := 0, slots := 0, locals := 42 }, [], 0, fun _ => 0)
def m_N_isFree : mj_M := (⟨"CircuitTwin$Net", "isFree", "(I)Z"⟩, prog_4_method_5_code, 2, some .boolean, { frames := 1, cells := 0, slots := 0, locals := 21 }, [], 0, fun _ => 0)
def m_N_exists : mj_M := (⟨"CircuitTwin$Net", "exists", "(I)Z"⟩, prog_4_method_3_code, 2, some .boolean, { frames := 0, cells := 0, slots := 0, locals := 0 }, [], 0, fun _ => 0)
def m_R_takeOutputs : mj_M := (⟨"CircuitTwin$Reader", "takeOutputs", "()Z"⟩, prog_5_method_10_code, 2, some .boolean, { frames := 3, cells := 0, slots := 0, locals := 71 }, [], 0, fun _ => 0)
def m_R_takeUsed : mj_M := (⟨"CircuitTwin$Reader", "takeUsed", "(I)Z"⟩, prog_5_method_19_code, 2, some .boolean, { frames := 1, cells := 0, slots := 0, locals := 22 }, [], 0, fun _ => 0)
def m_R_takeGates : mj_M := (⟨"CircuitTwin$Reader", "takeGates", "()Z"⟩, prog_5_method_11_code, 3, some .boolean, { frames := 4, cells := 0, slots := 0, locals := 92 }, [], 0, fun _ => 0)
def m_R_takeStepGate : mj_M := (⟨"CircuitTwin$Reader", "takeStepGate", "(I)Z"⟩, prog_5_method_13_code, 5, some .boolean, { frames := 2, cells := 0, slots := 0, locals := 44 }, [], 0, fun _ => 0)
def m_R_takeStep : mj_M := (⟨"CircuitTwin$Reader", "takeStep", "()I"⟩, prog_5_method_14_code, 3, some .int, { frames := 1, cells := 0, slots := 0, locals := 22 }, [], 0, fun _ => 0)
def m_R_takeLineGate : mj_M := (⟨"CircuitTwin$Reader", "takeLineGate", "(I)Z"⟩, prog_5_method_12_code, 2, some .boolean, { frames := 3, cells := 0, slots := 0, locals := 71 }, [], 0, fun _ => 0)
def m_R_takeEnd : mj_M := (⟨"CircuitTwin$Reader", "takeEnd", "()Z"⟩, prog_5_method_15_code, 1, some .boolean, { frames := 1, cells := 0, slots := 0, locals := 22 }, [], 0, fun _ => 0)
def m_R_checkWhole : mj_M := (⟨"CircuitTwin$Reader", "checkWhole", "()V"⟩, prog_5_method_20_code, 2, none, { frames := 4, cells := 0, slots := 0, locals := 92 }, [], 0, fun _ => 0)
def m_N_leastMissing : mj_M := (⟨"CircuitTwin$Net", "leastMissing", "()I"⟩, prog_4_method_10_code, 3, some .int, { frames := 2, cells := 0, slots := 0, locals := 42 }, [], 0, fun _ => 0)
def m_N_missingVariable : mj_M := (⟨"CircuitTwin$Net", "missingVariable", "(I)I"⟩, prog_4_method_11_code, 2, some .int, { frames := 1, cells := 0, slots := 0, locals := 21 }, [], 0, fun _ => 0)
def m_H_min : mj_M := (⟨"java/lang/Math", "min", "(II)I"⟩, prog_14_method_69_code, 2, some .int, { frames := 0, cells := 0, slots := 0, locals := 0 }, [], 0, fun _ => 0)
def m_N_arrange : mj_M := (⟨"CircuitTwin$Net", "arrange", "()Z"⟩, prog_4_method_12_code, 6, some .boolean, { frames := 2, cells := 0, slots := 0, locals := 45 }, [], 0, fun _ => 0)
def m_N_waitForAll : mj_M := (⟨"CircuitTwin$Net", "waitForAll", "()V"⟩, prog_4_method_13_code, 3, none, { frames := 1, cells := 0, slots := 0, locals := 23 }, [], 0, fun _ => 0)
def m_N_isGate : mj_M := (⟨"CircuitTwin$Net", "isGate", "(I)Z"⟩, prog_4_method_7_code, 2, some .boolean, { frames := 0, cells := 0, slots := 0, locals := 0 }, [], 0, fun _ => 0)
def m_F_leastOnLoop : mj_M := (⟨"CircuitTwin$LoopFinder", "leastOnLoop", "(LCircuitTwin$Net;)I"⟩, prog_3_method_2_code, 4, some .int, { frames := 3, cells := 0, slots := 0, locals := 69 }, [], 0, fun _ => 0)
def m_F_comesBack : mj_M := (⟨"CircuitTwin$LoopFinder", "comesBack", "(LCircuitTwin$Net;I)Z"⟩, prog_3_method_3_code, 4, some .boolean, { frames := 2, cells := 0, slots := 0, locals := 46 }, [], 0, fun _ => 0)
def m_F_reachFanins : mj_M := (⟨"CircuitTwin$LoopFinder", "reachFanins", "(LCircuitTwin$Net;II)V"⟩, prog_3_method_4_code, 4, none, { frames := 1, cells := 0, slots := 0, locals := 23 }, [], 0, fun _ => 0)
def m_F_reach : mj_M := (⟨"CircuitTwin$LoopFinder", "reach", "(LCircuitTwin$Net;II)V"⟩, prog_3_method_5_code, 4, none, { frames := 0, cells := 0, slots := 0, locals := 0 }, [], 0, fun _ => 0)
def m_R_exchangeNet : mj_M := (⟨"CircuitTwin$Reader", "exchangeNet", "(LCircuitTwin$Net;)LCircuitTwin$Net;"⟩, prog_5_method_4_code, 3, some ((.object "CircuitTwin$Net")), { frames := 0, cells := 0, slots := 0, locals := 0 }, [], 0, fun _ => 0)
def m_L_literal : mj_M := (⟨"CircuitTwinLaw", "literal", "(LCircuitTwin;III[J)I"⟩, method_5_code, 6, some .int, { frames := 8, cells := 2, slots := 12, locals := 145 }, [(0, 12, 15, 13), (0, 12, 19, 25)], 0, fun _ => 0)
def m_T_literal : mj_M := (⟨"CircuitTwin", "literal", "(III)I"⟩, prog_1_method_4_code, 5, some .int, { frames := 7, cells := 2, slots := 12, locals := 121 }, [], 0, fun _ => 0)
def m_L_value : mj_M := (⟨"CircuitTwinLaw", "value", "(LCircuitTwin;III[J)I"⟩, method_6_code, 6, some .int, { frames := 8, cells := 3, slots := 18, locals := 145 }, [(0, 12, 15, 13)], 0, fun _ => 0)
def m_T_value : mj_M := (⟨"CircuitTwin", "value", "(III)I"⟩, prog_1_method_5_code, 5, some .int, { frames := 7, cells := 3, slots := 18, locals := 121 }, [], 0, fun _ => 0)
def m_T_requireStanding : mj_M := (⟨"CircuitTwin", "requireStanding", "(LCircuitTwin$Circuit;I)V"⟩, prog_1_method_21_code, 2, none, { frames := 6, cells := 1, slots := 6, locals := 100 }, [], 0, fun _ => 0)
def m_N_stands : mj_M := (⟨"CircuitTwin$Net", "stands", "(I)Z"⟩, prog_4_method_4_code, 2, some .boolean, { frames := 1, cells := 0, slots := 0, locals := 21 }, [], 0, fun _ => 0)
def m_T_requireVector : mj_M := (⟨"CircuitTwin", "requireVector", "(LCircuitTwin$Circuit;I)V"⟩, prog_1_method_22_code, 2, none, { frames := 6, cells := 1, slots := 6, locals := 100 }, [], 0, fun _ => 0)
def m_C_bitAt : mj_M := (⟨"CircuitTwin$Circuit", "bitAt", "(II)I"⟩, prog_2_method_14_code, 5, some .int, { frames := 2, cells := 0, slots := 0, locals := 42 }, [], 0, fun _ => 0)
def m_L_compare : mj_M := (⟨"CircuitTwinLaw", "compare", "(LCircuitTwin;[J)I"⟩, method_7_code, 3, some .int, { frames := 8, cells := 1, slots := 6, locals := 141 }, [(0, 8, 11, 15)], 0, fun _ => 0)
def m_T_compare : mj_M := (⟨"CircuitTwin", "compare", "()I"⟩, prog_1_method_6_code, 2, some .int, { frames := 7, cells := 1, slots := 6, locals := 120 }, [], 0, fun _ => 0)
def m_T_requireMatch : mj_M := (⟨"CircuitTwin", "requireMatch", "()V"⟩, prog_1_method_24_code, 1, none, { frames := 6, cells := 1, slots := 6, locals := 100 }, [], 0, fun _ => 0)
def m_T_leastDifference : mj_M := (⟨"CircuitTwin", "leastDifference", "(I)I"⟩, prog_1_method_25_code, 2, some .int, { frames := 3, cells := 0, slots := 0, locals := 73 }, [], 0, fun _ => 0)
def m_C_firstDifference : mj_M := (⟨"CircuitTwin$Circuit", "firstDifference", "(ILCircuitTwin$Circuit;I)I"⟩, prog_2_method_17_code, 11, some .int, { frames := 2, cells := 0, slots := 0, locals := 43 }, [], 0, fun _ => 0)
def m_J_numberOfTrailingZeros : mj_M := (⟨"java/lang/Long", "numberOfTrailingZeros", "(J)I"⟩, prog_13_method_49_code, 3, some .int, { frames := 1, cells := 0, slots := 0, locals := 21 }, [], 0, fun _ => 0)
def m_I_numberOfTrailingZeros : mj_M := (⟨"java/lang/Integer", "numberOfTrailingZeros", "(I)I"⟩, prog_12_method_48_code, 2, some .int, { frames := 0, cells := 0, slots := 0, locals := 0 }, [], 0, fun _ => 0)
def m_L_witness : mj_M := (⟨"CircuitTwinLaw", "witness", "(LCircuitTwin;I[J)I"⟩, method_8_code, 4, some .int, { frames := 8, cells := 2, slots := 12, locals := 141 }, [(0, 9, 12, 15), (0, 9, 15, 25)], 0, fun _ => 0)
def m_T_witness : mj_M := (⟨"CircuitTwin", "witness", "(I)I"⟩, prog_1_method_7_code, 2, some .int, { frames := 7, cells := 2, slots := 12, locals := 120 }, [], 0, fun _ => 0)
def m_L_least : mj_M := (⟨"CircuitTwinLaw", "least", "(LCircuitTwin;III[J)I"⟩, method_9_code, 6, some .int, { frames := 8, cells := 3, slots := 18, locals := 145 }, [(0, 12, 15, 13)], 0, fun _ => 0)
def m_T_least : mj_M := (⟨"CircuitTwin", "least", "(III)I"⟩, prog_1_method_8_code, 5, some .int, { frames := 7, cells := 3, slots := 18, locals := 121 }, [], 0, fun _ => 0)
def m_C_firstOne : mj_M := (⟨"CircuitTwin$Circuit", "firstOne", "(II)I"⟩, prog_2_method_15_code, 10, some .int, { frames := 2, cells := 0, slots := 0, locals := 43 }, [], 0, fun _ => 0)
def m_L_greatest : mj_M := (⟨"CircuitTwinLaw", "greatest", "(LCircuitTwin;II[J)I"⟩, method_10_code, 5, some .int, { frames := 8, cells := 2, slots := 12, locals := 144 }, [(0, 10, 13, 13)], 0, fun _ => 0)
def m_T_greatest : mj_M := (⟨"CircuitTwin", "greatest", "(II)I"⟩, prog_1_method_9_code, 4, some .int, { frames := 7, cells := 2, slots := 12, locals := 121 }, [], 0, fun _ => 0)
def m_C_lastOne : mj_M := (⟨"CircuitTwin$Circuit", "lastOne", "(I)I"⟩, prog_2_method_16_code, 8, some .int, { frames := 2, cells := 0, slots := 0, locals := 43 }, [], 0, fun _ => 0)
def m_J_numberOfLeadingZeros : mj_M := (⟨"java/lang/Long", "numberOfLeadingZeros", "(J)I"⟩, prog_13_method_48_code, 3, some .int, { frames := 1, cells := 0, slots := 0, locals := 21 }, [], 0, fun _ => 0)
def m_I_numberOfLeadingZeros : mj_M := (⟨"java/lang/Integer", "numberOfLeadingZeros", "(I)I"⟩, prog_12_method_47_code, 2, some .int, { frames := 0, cells := 0, slots := 0, locals := 0 }, [], 0, fun _ => 0)
def m_L_same : mj_M := (⟨"CircuitTwinLaw", "same", "(LCircuitTwin;II[J)I"⟩, method_11_code, 5, some .int, { frames := 8, cells := 3, slots := 18, locals := 145 }, [(0, 10, 13, 13), (0, 10, 17, 15)], 0, fun _ => 0)
def m_T_same : mj_M := (⟨"CircuitTwin", "same", "(II)I"⟩, prog_1_method_10_code, 5, some .int, { frames := 7, cells := 3, slots := 18, locals := 121 }, [], 0, fun _ => 0)
def m_L_implies : mj_M := (⟨"CircuitTwinLaw", "implies", "(LCircuitTwin;III[J)I"⟩, method_12_code, 6, some .int, { frames := 8, cells := 3, slots := 18, locals := 145 }, [(0, 19, 22, 13)], 0, fun _ => 0)
def m_T_implies : mj_M := (⟨"CircuitTwin", "implies", "(III)Z"⟩, prog_1_method_11_code, 5, some .boolean, { frames := 7, cells := 3, slots := 18, locals := 121 }, [], 0, fun _ => 0)
def m_C_isWithin : mj_M := (⟨"CircuitTwin$Circuit", "isWithin", "(II)Z"⟩, prog_2_method_18_code, 10, some .boolean, { frames := 2, cells := 0, slots := 0, locals := 42 }, [], 0, fun _ => 0)
def m_L_depends : mj_M := (⟨"CircuitTwinLaw", "depends", "(LCircuitTwin;III[J)I"⟩, method_13_code, 6, some .int, { frames := 8, cells := 3, slots := 18, locals := 145 }, [(0, 19, 22, 13), (0, 19, 26, 25)], 0, fun _ => 0)
def m_T_depends : mj_M := (⟨"CircuitTwin", "depends", "(III)Z"⟩, prog_1_method_12_code, 5, some .boolean, { frames := 7, cells := 3, slots := 18, locals := 121 }, [], 0, fun _ => 0)
def m_T_requireInput : mj_M := (⟨"CircuitTwin", "requireInput", "(LCircuitTwin$Circuit;I)V"⟩, prog_1_method_23_code, 2, none, { frames := 6, cells := 1, slots := 6, locals := 100 }, [], 0, fun _ => 0)
def m_C_movesOf : mj_M := (⟨"CircuitTwin$Circuit", "movesOf", "(II)I"⟩, prog_2_method_19_code, 15, some .int, { frames := 2, cells := 0, slots := 0, locals := 42 }, [], 0, fun _ => 0)
def m_C_halfWithout : mj_M := (⟨"CircuitTwin$Circuit", "halfWithout", "(III)J"⟩, prog_2_method_20_code, 4, some .long, { frames := 0, cells := 0, slots := 0, locals := 0 }, [], 0, fun _ => 0)
def m_C_halfWith : mj_M := (⟨"CircuitTwin$Circuit", "halfWith", "(III)J"⟩, prog_2_method_21_code, 4, some .long, { frames := 0, cells := 0, slots := 0, locals := 0 }, [], 0, fun _ => 0)
def m_L_rises : mj_M := (⟨"CircuitTwinLaw", "rises", "(LCircuitTwin;III[J)I"⟩, method_14_code, 6, some .int, { frames := 8, cells := 3, slots := 18, locals := 146 }, [(0, 12, 15, 13), (0, 12, 19, 25)], 0, fun _ => 0)
def m_T_rises : mj_M := (⟨"CircuitTwin", "rises", "(III)I"⟩, prog_1_method_13_code, 6, some .int, { frames := 7, cells := 3, slots := 18, locals := 121 }, [], 0, fun _ => 0)
def m_L_leader : mj_M := (⟨"CircuitTwinLaw", "leader", "(LCircuitTwin;II[J)I"⟩, method_15_code, 5, some .int, { frames := 8, cells := 2, slots := 12, locals := 144 }, [(0, 10, 13, 13)], 0, fun _ => 0)
def m_T_leader : mj_M := (⟨"CircuitTwin", "leader", "(II)I"⟩, prog_1_method_14_code, 4, some .int, { frames := 7, cells := 2, slots := 12, locals := 121 }, [], 0, fun _ => 0)
def m_C_leaderOf : mj_M := (⟨"CircuitTwin$Circuit", "leaderOf", "(I)I"⟩, prog_2_method_10_code, 2, some .int, { frames := 1, cells := 0, slots := 0, locals := 21 }, [], 0, fun _ => 0)
def m_L_functions : mj_M := (⟨"CircuitTwinLaw", "functions", "(LCircuitTwin;I[J)I"⟩, method_16_code, 4, some .int, { frames := 8, cells := 1, slots := 6, locals := 142 }, [(0, 9, 12, 13)], 0, fun _ => 0)
def m_T_functions : mj_M := (⟨"CircuitTwin", "functions", "(I)I"⟩, prog_1_method_15_code, 2, some .int, { frames := 7, cells := 1, slots := 6, locals := 121 }, [], 0, fun _ => 0)
def m_L_allFunctions : mj_M := (⟨"CircuitTwinLaw", "allFunctions", "(LCircuitTwin;[J)I"⟩, method_17_code, 3, some .int, { frames := 8, cells := 1, slots := 6, locals := 140 }, [(0, 8, 11, 15)], 0, fun _ => 0)
def m_T_allFunctions : mj_M := (⟨"CircuitTwin", "allFunctions", "()I"⟩, prog_1_method_16_code, 1, some .int, { frames := 7, cells := 1, slots := 6, locals := 120 }, [], 0, fun _ => 0)
def m_C_kindsNotIn : mj_M := (⟨"CircuitTwin$Circuit", "kindsNotIn", "(LCircuitTwin$Circuit;)I"⟩, prog_2_method_9_code, 5, some .int, { frames := 3, cells := 0, slots := 0, locals := 74 }, [], 0, fun _ => 0)
def m_L_write : mj_M := (⟨"CircuitTwinLaw", "write", "(LCircuitTwin;IZZ[J)I"⟩, method_18_code, 6, some .int, { frames := 8, cells := 1, slots := 6, locals := 162 }, [(0, 12, 15, 13)], 0, fun _ => 0)
def m_T_write : mj_M := (⟨"CircuitTwin", "write", "(IZZ)I"⟩, prog_1_method_17_code, 4, some .int, { frames := 7, cells := 1, slots := 6, locals := 139 }, [], 0, fun _ => 0)
def m_W_writeText : mj_M := (⟨"CircuitTwin$Writer", "writeText", "(LCircuitTwin$Circuit;ZZ)I"⟩, prog_6_method_3_code, 5, some .int, { frames := 5, cells := 0, slots := 0, locals := 115 }, [], 0, fun _ => 0)
def m_W_measure : mj_M := (⟨"CircuitTwin$Writer", "measure", "(LCircuitTwin$Circuit;)V"⟩, prog_6_method_6_code, 7, none, { frames := 4, cells := 0, slots := 0, locals := 86 }, [], 0, fun _ => 0)
def m_W_finalSlot : mj_M := (⟨"CircuitTwin$Writer", "finalSlot", "(LCircuitTwin$Circuit;I)I"⟩, prog_6_method_5_code, 3, some .int, { frames := 3, cells := 0, slots := 0, locals := 64 }, [], 0, fun _ => 0)
def m_W_finalLiteral : mj_M := (⟨"CircuitTwin$Writer", "finalLiteral", "(LCircuitTwin$Circuit;I)I"⟩, prog_6_method_4_code, 3, some .int, { frames := 2, cells := 0, slots := 0, locals := 42 }, [], 0, fun _ => 0)
def m_H_max : mj_M := (⟨"java/lang/Math", "max", "(II)I"⟩, prog_14_method_65_code, 2, some .int, { frames := 0, cells := 0, slots := 0, locals := 0 }, [], 0, fun _ => 0)
def m_W_markNeeded : mj_M := (⟨"CircuitTwin$Writer", "markNeeded", "(LCircuitTwin$Circuit;)V"⟩, prog_6_method_7_code, 5, none, { frames := 4, cells := 0, slots := 0, locals := 86 }, [], 0, fun _ => 0)
def m_W_numberGates : mj_M := (⟨"CircuitTwin$Writer", "numberGates", "(LCircuitTwin$Net;)V"⟩, prog_6_method_8_code, 4, none, { frames := 2, cells := 0, slots := 0, locals := 45 }, [], 0, fun _ => 0)
def m_W_countDepths : mj_M := (⟨"CircuitTwin$Writer", "countDepths", "(LCircuitTwin$Net;)V"⟩, prog_6_method_9_code, 3, none, { frames := 1, cells := 0, slots := 0, locals := 23 }, [], 0, fun _ => 0)
def m_W_putFirstLine : mj_M := (⟨"CircuitTwin$Writer", "putFirstLine", "(LCircuitTwin$Net;Z)V"⟩, prog_6_method_11_code, 3, none, { frames := 2, cells := 0, slots := 0, locals := 43 }, [], 0, fun _ => 0)
def m_W_putByte : mj_M := (⟨"CircuitTwin$Writer", "putByte", "(I)V"⟩, prog_6_method_17_code, 2, none, { frames := 0, cells := 0, slots := 0, locals := 0 }, [], 0, fun _ => 0)
def m_W_putNumber : mj_M := (⟨"CircuitTwin$Writer", "putNumber", "(II)V"⟩, prog_6_method_16_code, 3, none, { frames := 1, cells := 0, slots := 0, locals := 21 }, [], 0, fun _ => 0)
def m_W_putInputs : mj_M := (⟨"CircuitTwin$Writer", "putInputs", "(LCircuitTwin$Net;)V"⟩, prog_6_method_12_code, 3, none, { frames := 2, cells := 0, slots := 0, locals := 43 }, [], 0, fun _ => 0)
def m_W_putOutputs : mj_M := (⟨"CircuitTwin$Writer", "putOutputs", "(LCircuitTwin$Circuit;)V"⟩, prog_6_method_13_code, 3, none, { frames := 4, cells := 0, slots := 0, locals := 87 }, [], 0, fun _ => 0)
def m_W_newLiteral : mj_M := (⟨"CircuitTwin$Writer", "newLiteral", "(LCircuitTwin$Circuit;I)I"⟩, prog_6_method_10_code, 4, some .int, { frames := 3, cells := 0, slots := 0, locals := 64 }, [], 0, fun _ => 0)
def m_W_putGate : mj_M := (⟨"CircuitTwin$Writer", "putGate", "(LCircuitTwin$Circuit;IZ)V"⟩, prog_6_method_14_code, 9, none, { frames := 4, cells := 0, slots := 0, locals := 87 }, [], 0, fun _ => 0)
def m_W_putStep : mj_M := (⟨"CircuitTwin$Writer", "putStep", "(I)V"⟩, prog_6_method_15_code, 2, none, { frames := 1, cells := 0, slots := 0, locals := 21 }, [], 0, fun _ => 0)
def m_L_out : mj_M := (⟨"CircuitTwinLaw", "out", "(LCircuitTwin;I[J)I"⟩, method_19_code, 4, some .int, { frames := 7, cells := 1, slots := 6, locals := 124 }, [(0, 8, 11, 25)], 0, fun _ => 0)
def m_T_out : mj_M := (⟨"CircuitTwin", "out", "(I)J"⟩, prog_1_method_18_code, 5, some .long, { frames := 6, cells := 1, slots := 6, locals := 100 }, [], 0, fun _ => 0)
def m_W_byteAt : mj_M := (⟨"CircuitTwin$Writer", "byteAt", "(I)I"⟩, prog_6_method_2_code, 2, some .int, { frames := 0, cells := 0, slots := 0, locals := 0 }, [], 0, fun _ => 0)
def m_L_look : mj_M := (⟨"CircuitTwinLaw", "look", "(LCircuitTwin;II[J)I"⟩, method_20_code, 5, some .int, { frames := 8, cells := 2, slots := 12, locals := 144 }, [(0, 10, 13, 13)], 0, fun _ => 0)
def m_T_look : mj_M := (⟨"CircuitTwin", "look", "(II)I"⟩, prog_1_method_19_code, 4, some .int, { frames := 7, cells := 2, slots := 12, locals := 121 }, [], 0, fun _ => 0)
def m_N_outputDepth : mj_M := (⟨"CircuitTwin$Net", "outputDepth", "()I"⟩, prog_4_method_9_code, 3, some .int, { frames := 1, cells := 0, slots := 0, locals := 21 }, [], 0, fun _ => 0)
def m_M_init : mj_M := (⟨"CircuitTwinModel", "<init>", "()V"⟩, prog_8_method_1_code, 3, none, { frames := 1, cells := 24, slots := 186905, locals := 20 }, [], 0, fun _ => 0)
def m_M_thrown : mj_M := (⟨"CircuitTwinModel", "thrown", "()I"⟩, prog_8_method_2_code, 1, some .int, { frames := 0, cells := 0, slots := 0, locals := 0 }, [], 0, fun _ => 0)
def m_M_feed : mj_M := (⟨"CircuitTwinModel", "feed", "(IJ)I"⟩, prog_8_method_5_code, 6, some .int, { frames := 1, cells := 0, slots := 0, locals := 22 }, [], 0, fun _ => 0)
def m_M_throwing : mj_M := (⟨"CircuitTwinModel", "throwing", "(ZZ)Z"⟩, prog_8_method_3_code, 3, some .boolean, { frames := 0, cells := 0, slots := 0, locals := 0 }, [], 0, fun _ => 0)
def m_M_load : mj_M := (⟨"CircuitTwinModel", "load", "(I)I"⟩, prog_8_method_25_code, 2, some .int, { frames := 4, cells := 0, slots := 0, locals := 95 }, [], 0, fun _ => 0)
def m_M_isCircuit : mj_M := (⟨"CircuitTwinModel", "isCircuit", "(I)Z"⟩, prog_8_method_4_code, 1, some .boolean, { frames := 0, cells := 0, slots := 0, locals := 0 }, [], 0, fun _ => 0)
def m_M_readText : mj_M := (⟨"CircuitTwinModel", "readText", "()V"⟩, prog_8_method_24_code, 3, none, { frames := 3, cells := 0, slots := 0, locals := 73 }, [], 0, fun _ => 0)
def m_M_fail : mj_M := (⟨"CircuitTwinModel", "fail", "(II)V"⟩, prog_8_method_6_code, 3, none, { frames := 0, cells := 0, slots := 0, locals := 0 }, [], 0, fun _ => 0)
def m_M_empty : mj_M := (⟨"CircuitTwinModel", "empty", "()V"⟩, prog_8_method_11_code, 2, none, { frames := 0, cells := 0, slots := 0, locals := 0 }, [], 0, fun _ => 0)
def m_M_header : mj_M := (⟨"CircuitTwinModel", "header", "(Z)V"⟩, prog_8_method_13_code, 6, none, { frames := 2, cells := 0, slots := 0, locals := 48 }, [], 0, fun _ => 0)
def m_M_line : mj_M := (⟨"CircuitTwinModel", "line", "(II)V"⟩, prog_8_method_9_code, 7, none, { frames := 1, cells := 0, slots := 0, locals := 22 }, [], 0, fun _ => 0)
def m_M_here : mj_M := (⟨"CircuitTwinModel", "here", "()I"⟩, prog_8_method_7_code, 1, some .int, { frames := 0, cells := 0, slots := 0, locals := 0 }, [], 0, fun _ => 0)
def m_M_isDigit : mj_M := (⟨"CircuitTwinModel", "isDigit", "(I)Z"⟩, prog_8_method_8_code, 1, some .boolean, { frames := 0, cells := 0, slots := 0, locals := 0 }, [], 0, fun _ => 0)
def m_M_readInputs : mj_M := (⟨"CircuitTwinModel", "readInputs", "(Z)V"⟩, prog_8_method_14_code, 4, none, { frames := 2, cells := 0, slots := 0, locals := 48 }, [], 0, fun _ => 0)
def m_M_stands : mj_M := (⟨"CircuitTwinModel", "stands", "(II)Z"⟩, prog_8_method_12_code, 3, some .boolean, { frames := 0, cells := 0, slots := 0, locals := 0 }, [], 0, fun _ => 0)
def m_M_readOutputs : mj_M := (⟨"CircuitTwinModel", "readOutputs", "()V"⟩, prog_8_method_15_code, 2, none, { frames := 2, cells := 0, slots := 0, locals := 48 }, [], 0, fun _ => 0)
def m_M_readSteps : mj_M := (⟨"CircuitTwinModel", "readSteps", "()V"⟩, prog_8_method_17_code, 7, none, { frames := 2, cells := 0, slots := 0, locals := 44 }, [], 0, fun _ => 0)
def m_M_step : mj_M := (⟨"CircuitTwinModel", "step", "()I"⟩, prog_8_method_10_code, 3, some .int, { frames := 1, cells := 0, slots := 0, locals := 22 }, [], 0, fun _ => 0)
def m_M_readGates : mj_M := (⟨"CircuitTwinModel", "readGates", "()V"⟩, prog_8_method_16_code, 3, none, { frames := 2, cells := 0, slots := 0, locals := 48 }, [], 0, fun _ => 0)
def m_M_connect : mj_M := (⟨"CircuitTwinModel", "connect", "()V"⟩, prog_8_method_20_code, 5, none, { frames := 2, cells := 0, slots := 0, locals := 48 }, [], 0, fun _ => 0)
def m_M_lesser : mj_M := (⟨"CircuitTwinModel", "lesser", "(II)I"⟩, prog_8_method_19_code, 3, some .int, { frames := 1, cells := 0, slots := 0, locals := 21 }, [], 0, fun _ => 0)
def m_M_lacks : mj_M := (⟨"CircuitTwinModel", "lacks", "(I)Z"⟩, prog_8_method_18_code, 2, some .boolean, { frames := 0, cells := 0, slots := 0, locals := 0 }, [], 0, fun _ => 0)
def m_M_arrange : mj_M := (⟨"CircuitTwinModel", "arrange", "()I"⟩, prog_8_method_22_code, 7, some .int, { frames := 1, cells := 0, slots := 0, locals := 22 }, [], 0, fun _ => 0)
def m_M_rowAt : mj_M := (⟨"CircuitTwinModel", "rowAt", "(II)I"⟩, prog_8_method_21_code, 3, some .int, { frames := 0, cells := 0, slots := 0, locals := 0 }, [], 0, fun _ => 0)
def m_M_comesBack : mj_M := (⟨"CircuitTwinModel", "comesBack", "(I)Z"⟩, prog_8_method_23_code, 6, some .boolean, { frames := 1, cells := 0, slots := 0, locals := 22 }, [], 0, fun _ => 0)
def m_M_take : mj_M := (⟨"CircuitTwinModel", "take", "(I)V"⟩, prog_8_method_26_code, 3, none, { frames := 3, cells := 0, slots := 0, locals := 73 }, [], 0, fun _ => 0)
def m_M_fillTables : mj_M := (⟨"CircuitTwinModel", "fillTables", "(I)V"⟩, prog_8_method_27_code, 7, none, { frames := 2, cells := 0, slots := 0, locals := 47 }, [], 0, fun _ => 0)
def m_M_words : mj_M := (⟨"CircuitTwinModel", "words", "(I)I"⟩, prog_8_method_28_code, 2, some .int, { frames := 0, cells := 0, slots := 0, locals := 0 }, [], 0, fun _ => 0)
def m_M_mask : mj_M := (⟨"CircuitTwinModel", "mask", "(I)J"⟩, prog_8_method_29_code, 2, some .long, { frames := 0, cells := 0, slots := 0, locals := 0 }, [], 0, fun _ => 0)
def m_M_word : mj_M := (⟨"CircuitTwinModel", "word", "(III)J"⟩, prog_8_method_30_code, 6, some .long, { frames := 1, cells := 0, slots := 0, locals := 22 }, [], 0, fun _ => 0)
def m_M_literal : mj_M := (⟨"CircuitTwinModel", "literal", "(III)I"⟩, prog_8_method_35_code, 6, some .int, { frames := 1, cells := 0, slots := 0, locals := 22 }, [], 0, fun _ => 0)
def m_M_value : mj_M := (⟨"CircuitTwinModel", "value", "(III)I"⟩, prog_8_method_36_code, 4, some .int, { frames := 3, cells := 0, slots := 0, locals := 70 }, [], 0, fun _ => 0)
def m_M_isLiteral : mj_M := (⟨"CircuitTwinModel", "isLiteral", "(II)Z"⟩, prog_8_method_31_code, 3, some .boolean, { frames := 1, cells := 0, slots := 0, locals := 22 }, [], 0, fun _ => 0)
def m_M_isVector : mj_M := (⟨"CircuitTwinModel", "isVector", "(II)Z"⟩, prog_8_method_32_code, 3, some .boolean, { frames := 0, cells := 0, slots := 0, locals := 0 }, [], 0, fun _ => 0)
def m_M_bit : mj_M := (⟨"CircuitTwinModel", "bit", "(III)I"⟩, prog_8_method_33_code, 4, some .int, { frames := 2, cells := 0, slots := 0, locals := 47 }, [], 0, fun _ => 0)
def m_M_compare : mj_M := (⟨"CircuitTwinModel", "compare", "()I"⟩, prog_8_method_39_code, 2, some .int, { frames := 3, cells := 0, slots := 0, locals := 72 }, [], 0, fun _ => 0)
def m_M_match : mj_M := (⟨"CircuitTwinModel", "match", "()Z"⟩, prog_8_method_37_code, 1, some .boolean, { frames := 0, cells := 0, slots := 0, locals := 0 }, [], 0, fun _ => 0)
def m_M_areSame : mj_M := (⟨"CircuitTwinModel", "areSame", "(IIII)Z"⟩, prog_8_method_34_code, 6, some .boolean, { frames := 2, cells := 0, slots := 0, locals := 47 }, [], 0, fun _ => 0)
def m_M_witness : mj_M := (⟨"CircuitTwinModel", "witness", "(I)I"⟩, prog_8_method_40_code, 2, some .int, { frames := 4, cells := 0, slots := 0, locals := 92 }, [], 0, fun _ => 0)
def m_M_difference : mj_M := (⟨"CircuitTwinModel", "difference", "(I)I"⟩, prog_8_method_38_code, 3, some .int, { frames := 3, cells := 0, slots := 0, locals := 70 }, [], 0, fun _ => 0)
def m_M_least : mj_M := (⟨"CircuitTwinModel", "least", "(III)I"⟩, prog_8_method_41_code, 5, some .int, { frames := 3, cells := 0, slots := 0, locals := 70 }, [], 0, fun _ => 0)
def m_M_greatest : mj_M := (⟨"CircuitTwinModel", "greatest", "(II)I"⟩, prog_8_method_42_code, 4, some .int, { frames := 3, cells := 0, slots := 0, locals := 70 }, [], 0, fun _ => 0)
def m_M_same : mj_M := (⟨"CircuitTwinModel", "same", "(II)I"⟩, prog_8_method_43_code, 3, some .int, { frames := 3, cells := 0, slots := 0, locals := 72 }, [], 0, fun _ => 0)
def m_M_implies : mj_M := (⟨"CircuitTwinModel", "implies", "(III)Z"⟩, prog_8_method_44_code, 6, some .boolean, { frames := 2, cells := 0, slots := 0, locals := 47 }, [], 0, fun _ => 0)
def m_M_depends : mj_M := (⟨"CircuitTwinModel", "depends", "(III)Z"⟩, prog_8_method_46_code, 5, some .boolean, { frames := 3, cells := 0, slots := 0, locals := 70 }, [], 0, fun _ => 0)
def m_M_lacksInput : mj_M := (⟨"CircuitTwinModel", "lacksInput", "(III)Z"⟩, prog_8_method_45_code, 5, some .boolean, { frames := 2, cells := 0, slots := 0, locals := 44 }, [], 0, fun _ => 0)
def m_M_rises : mj_M := (⟨"CircuitTwinModel", "rises", "(III)I"⟩, prog_8_method_47_code, 8, some .int, { frames := 3, cells := 0, slots := 0, locals := 70 }, [], 0, fun _ => 0)
def m_M_leader : mj_M := (⟨"CircuitTwinModel", "leader", "(II)I"⟩, prog_8_method_51_code, 3, some .int, { frames := 4, cells := 0, slots := 0, locals := 100 }, [], 0, fun _ => 0)
def m_M_leaderOf : mj_M := (⟨"CircuitTwinModel", "leaderOf", "(II)I"⟩, prog_8_method_50_code, 9, some .int, { frames := 3, cells := 0, slots := 0, locals := 72 }, [], 0, fun _ => 0)
def m_M_isRow : mj_M := (⟨"CircuitTwinModel", "isRow", "(II)Z"⟩, prog_8_method_49_code, 3, some .boolean, { frames := 0, cells := 0, slots := 0, locals := 0 }, [], 0, fun _ => 0)
def m_M_variableOf : mj_M := (⟨"CircuitTwinModel", "variableOf", "(II)I"⟩, prog_8_method_48_code, 3, some .int, { frames := 0, cells := 0, slots := 0, locals := 0 }, [], 0, fun _ => 0)
def m_M_functions : mj_M := (⟨"CircuitTwinModel", "functions", "(I)I"⟩, prog_8_method_54_code, 2, some .int, { frames := 5, cells := 0, slots := 0, locals := 124 }, [], 0, fun _ => 0)
def m_M_different : mj_M := (⟨"CircuitTwinModel", "different", "(II)I"⟩, prog_8_method_53_code, 6, some .int, { frames := 4, cells := 0, slots := 0, locals := 99 }, [], 0, fun _ => 0)
def m_M_isOld : mj_M := (⟨"CircuitTwinModel", "isOld", "(III)Z"⟩, prog_8_method_52_code, 8, some .boolean, { frames := 3, cells := 0, slots := 0, locals := 72 }, [], 0, fun _ => 0)
def m_M_allFunctions : mj_M := (⟨"CircuitTwinModel", "allFunctions", "()I"⟩, prog_8_method_55_code, 1, some .int, { frames := 5, cells := 0, slots := 0, locals := 124 }, [], 0, fun _ => 0)
def m_M_write : mj_M := (⟨"CircuitTwinModel", "write", "(IZZ)I"⟩, prog_8_method_63_code, 8, some .int, { frames := 5, cells := 0, slots := 0, locals := 127 }, [], 0, fun _ => 0)
def m_M_choose : mj_M := (⟨"CircuitTwinModel", "choose", "(IZ)I"⟩, prog_8_method_60_code, 8, some .int, { frames := 4, cells := 0, slots := 0, locals := 100 }, [], 0, fun _ => 0)
def m_M_turned : mj_M := (⟨"CircuitTwinModel", "turned", "(II)I"⟩, prog_8_method_59_code, 3, some .int, { frames := 1, cells := 0, slots := 0, locals := 22 }, [], 0, fun _ => 0)
def m_M_put : mj_M := (⟨"CircuitTwinModel", "put", "(I)V"⟩, prog_8_method_56_code, 2, none, { frames := 0, cells := 0, slots := 0, locals := 0 }, [], 0, fun _ => 0)
def m_M_putNumber : mj_M := (⟨"CircuitTwinModel", "putNumber", "(II)V"⟩, prog_8_method_57_code, 4, none, { frames := 1, cells := 0, slots := 0, locals := 21 }, [], 0, fun _ => 0)
def m_M_nextGate : mj_M := (⟨"CircuitTwinModel", "nextGate", "(I)I"⟩, prog_8_method_61_code, 4, some .int, { frames := 0, cells := 0, slots := 0, locals := 0 }, [], 0, fun _ => 0)
def m_M_written : mj_M := (⟨"CircuitTwinModel", "written", "(II)I"⟩, prog_8_method_62_code, 4, some .int, { frames := 2, cells := 0, slots := 0, locals := 44 }, [], 0, fun _ => 0)
def m_M_writeGate : mj_M := (⟨"CircuitTwinModel", "writeGate", "(IIZ)V"⟩, prog_8_method_64_code, 9, none, { frames := 3, cells := 0, slots := 0, locals := 67 }, [], 0, fun _ => 0)
def m_M_putStep : mj_M := (⟨"CircuitTwinModel", "putStep", "(I)V"⟩, prog_8_method_58_code, 2, none, { frames := 1, cells := 0, slots := 0, locals := 21 }, [], 0, fun _ => 0)
def m_M_out : mj_M := (⟨"CircuitTwinModel", "out", "(I)J"⟩, prog_8_method_65_code, 5, some .long, { frames := 1, cells := 0, slots := 0, locals := 22 }, [], 0, fun _ => 0)
def m_M_look : mj_M := (⟨"CircuitTwinModel", "look", "(II)I"⟩, prog_8_method_66_code, 7, some .int, { frames := 1, cells := 0, slots := 0, locals := 22 }, [], 0, fun _ => 0)
def m_L_law (L : Nat) (sc : Nat → Int) : mj_M := (⟨"CircuitTwinLaw", "law", "([I)Z"⟩, code, 8, some .boolean, { frames := 11, cells := 601024, slots := 7293034, locals := 392 }, [], L, sc)
