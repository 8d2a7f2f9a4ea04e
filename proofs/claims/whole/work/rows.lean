section
-- ===== PART A: goes FIRST, ahead of the names: the tables' words, and 'selects' of the private methods out of them =====
/-- a private method of a class that the tables say can be made, by its rows of tables_1 -/
def lw_okq (q : MethodName × Nat) : Prop := (q.1.cls ≠ "java/lang/invoke/MethodHandle" ∧ q.1.cls ≠ "java/lang/invoke/VarHandle") ∧ Cond.instantiable q.1.cls q.2 ∈ tables_1 ∧ Cond.privateMethod q.1 ∈ tables_1 ∧ Cond.instanceMethod q.1 ∈ tables_1
theorem lw_p0 : lw_okq (⟨"ChoirWires$Beats", "timeAt", "(LChoirWires$Rooms;II)I"⟩, 5) := ⟨⟨by decide +kernel, by decide +kernel⟩, List.mem_of_getElem? (i := 160) (by decide +kernel), List.mem_of_getElem? (i := 358) (by decide +kernel), List.mem_of_getElem? (i := 359) (by decide +kernel)⟩
theorem lw_p1 : lw_okq (⟨"ChoirWires$Beats", "meanLag", "(II)I"⟩, 5) := ⟨⟨by decide +kernel, by decide +kernel⟩, List.mem_of_getElem? (i := 160) (by decide +kernel), List.mem_of_getElem? (i := 362) (by decide +kernel), List.mem_of_getElem? (i := 363) (by decide +kernel)⟩
theorem lw_p2 : lw_okq (⟨"ChoirWires$Ears", "lead", "(LChoirWires$Rooms;II)V"⟩, 1) := ⟨⟨by decide +kernel, by decide +kernel⟩, List.mem_of_getElem? (i := 182) (by decide +kernel), List.mem_of_getElem? (i := 462) (by decide +kernel), List.mem_of_getElem? (i := 463) (by decide +kernel)⟩
theorem lw_p3 : lw_okq (⟨"ChoirWires$Ears", "agrees", "(LChoirWires$Rooms;II)Z"⟩, 1) := ⟨⟨by decide +kernel, by decide +kernel⟩, List.mem_of_getElem? (i := 182) (by decide +kernel), List.mem_of_getElem? (i := 472) (by decide +kernel), List.mem_of_getElem? (i := 473) (by decide +kernel)⟩
theorem lw_p4 : lw_okq (⟨"ChoirWires$Tape", "peek", "()I"⟩, 4) := ⟨⟨by decide +kernel, by decide +kernel⟩, List.mem_of_getElem? (i := 116) (by decide +kernel), List.mem_of_getElem? (i := 499) (by decide +kernel), List.mem_of_getElem? (i := 500) (by decide +kernel)⟩
theorem lw_p5 : lw_okq (⟨"ChoirWires$Tape", "readSound", "(I)Z"⟩, 4) := ⟨⟨by decide +kernel, by decide +kernel⟩, List.mem_of_getElem? (i := 116) (by decide +kernel), List.mem_of_getElem? (i := 503) (by decide +kernel), List.mem_of_getElem? (i := 504) (by decide +kernel)⟩
theorem lw_p6 : lw_okq (⟨"ChoirWires$Words", "toldTo", "(LChoirWires$Rooms;II)I"⟩, 2) := ⟨⟨by decide +kernel, by decide +kernel⟩, List.mem_of_getElem? (i := 192) (by decide +kernel), List.mem_of_getElem? (i := 569) (by decide +kernel), List.mem_of_getElem? (i := 570) (by decide +kernel)⟩
theorem lw_p7 : lw_okq (⟨"ChoirWires$Nets", "gather", "(LChoirWires$Rooms;)V"⟩, 7) := ⟨⟨by decide +kernel, by decide +kernel⟩, List.mem_of_getElem? (i := 205) (by decide +kernel), List.mem_of_getElem? (i := 638) (by decide +kernel), List.mem_of_getElem? (i := 639) (by decide +kernel)⟩
theorem lw_p8 : lw_okq (⟨"ChoirWires$Nets", "decode", "(LChoirWires$Rooms;I)Z"⟩, 7) := ⟨⟨by decide +kernel, by decide +kernel⟩, List.mem_of_getElem? (i := 205) (by decide +kernel), List.mem_of_getElem? (i := 643) (by decide +kernel), List.mem_of_getElem? (i := 644) (by decide +kernel)⟩
theorem lw_p9 : lw_okq (⟨"ChoirWires$Nets", "takeLeaf", "()I"⟩, 7) := ⟨⟨by decide +kernel, by decide +kernel⟩, List.mem_of_getElem? (i := 205) (by decide +kernel), List.mem_of_getElem? (i := 650) (by decide +kernel), List.mem_of_getElem? (i := 651) (by decide +kernel)⟩
theorem lw_p10 : lw_okq (⟨"ChoirWires$Nets", "blinksOf", "(LChoirWires$Rooms;II)I"⟩, 7) := ⟨⟨by decide +kernel, by decide +kernel⟩, List.mem_of_getElem? (i := 205) (by decide +kernel), List.mem_of_getElem? (i := 654) (by decide +kernel), List.mem_of_getElem? (i := 655) (by decide +kernel)⟩
theorem lw_p11 : lw_okq (⟨"ChoirWires$Nets", "greatestWait", "(LChoirWires$Rooms;)I"⟩, 7) := ⟨⟨by decide +kernel, by decide +kernel⟩, List.mem_of_getElem? (i := 205) (by decide +kernel), List.mem_of_getElem? (i := 659) (by decide +kernel), List.mem_of_getElem? (i := 660) (by decide +kernel)⟩
theorem lw_p12 : lw_okq (⟨"ChoirWires$Nets", "join", "(LChoirWires$Rooms;III)I"⟩, 7) := ⟨⟨by decide +kernel, by decide +kernel⟩, List.mem_of_getElem? (i := 205) (by decide +kernel), List.mem_of_getElem? (i := 663) (by decide +kernel), List.mem_of_getElem? (i := 664) (by decide +kernel)⟩
theorem lw_p13 : lw_okq (⟨"ChoirWiresModel", "rooms", "()I"⟩, 22) := ⟨⟨by decide +kernel, by decide +kernel⟩, List.mem_of_getElem? (i := 721) (by decide +kernel), List.mem_of_getElem? (i := 803) (by decide +kernel), List.mem_of_getElem? (i := 804) (by decide +kernel)⟩
theorem lw_p14 : lw_okq (⟨"ChoirWiresModel", "isRoom", "(I)Z"⟩, 22) := ⟨⟨by decide +kernel, by decide +kernel⟩, List.mem_of_getElem? (i := 721) (by decide +kernel), List.mem_of_getElem? (i := 811) (by decide +kernel), List.mem_of_getElem? (i := 812) (by decide +kernel)⟩
theorem lw_p15 : lw_okq (⟨"ChoirWiresModel", "of", "(II)I"⟩, 22) := ⟨⟨by decide +kernel, by decide +kernel⟩, List.mem_of_getElem? (i := 721) (by decide +kernel), List.mem_of_getElem? (i := 818) (by decide +kernel), List.mem_of_getElem? (i := 819) (by decide +kernel)⟩
def lw_privs_1 : List (MethodName × Nat) := [(⟨"ChoirWires$Beats", "timeAt", "(LChoirWires$Rooms;II)I"⟩, 5), (⟨"ChoirWires$Beats", "meanLag", "(II)I"⟩, 5), (⟨"ChoirWires$Ears", "lead", "(LChoirWires$Rooms;II)V"⟩, 1), (⟨"ChoirWires$Ears", "agrees", "(LChoirWires$Rooms;II)Z"⟩, 1), (⟨"ChoirWires$Tape", "peek", "()I"⟩, 4), (⟨"ChoirWires$Tape", "readSound", "(I)Z"⟩, 4), (⟨"ChoirWires$Words", "toldTo", "(LChoirWires$Rooms;II)I"⟩, 2), (⟨"ChoirWires$Nets", "gather", "(LChoirWires$Rooms;)V"⟩, 7), (⟨"ChoirWires$Nets", "decode", "(LChoirWires$Rooms;I)Z"⟩, 7), (⟨"ChoirWires$Nets", "takeLeaf", "()I"⟩, 7), (⟨"ChoirWires$Nets", "blinksOf", "(LChoirWires$Rooms;II)I"⟩, 7), (⟨"ChoirWires$Nets", "greatestWait", "(LChoirWires$Rooms;)I"⟩, 7), (⟨"ChoirWires$Nets", "join", "(LChoirWires$Rooms;III)I"⟩, 7), (⟨"ChoirWiresModel", "rooms", "()I"⟩, 22), (⟨"ChoirWiresModel", "isRoom", "(I)Z"⟩, 22), (⟨"ChoirWiresModel", "of", "(II)I"⟩, 22)]
theorem lw_r1 : ∀ q ∈ lw_privs_1, lw_okq q := List.forall_mem_cons.mpr ⟨lw_p0, List.forall_mem_cons.mpr ⟨lw_p1, List.forall_mem_cons.mpr ⟨lw_p2, List.forall_mem_cons.mpr ⟨lw_p3, List.forall_mem_cons.mpr ⟨lw_p4, List.forall_mem_cons.mpr ⟨lw_p5, List.forall_mem_cons.mpr ⟨lw_p6, List.forall_mem_cons.mpr ⟨lw_p7, List.forall_mem_cons.mpr ⟨lw_p8, List.forall_mem_cons.mpr ⟨lw_p9, List.forall_mem_cons.mpr ⟨lw_p10, List.forall_mem_cons.mpr ⟨lw_p11, List.forall_mem_cons.mpr ⟨lw_p12, List.forall_mem_cons.mpr ⟨lw_p13, List.forall_mem_cons.mpr ⟨lw_p14, List.forall_mem_cons.mpr ⟨lw_p15, fun _ h => absurd h List.not_mem_nil⟩⟩⟩⟩⟩⟩⟩⟩⟩⟩⟩⟩⟩⟩⟩⟩
theorem lw_p16 : lw_okq (⟨"ChoirWiresModel", "wireOf", "(II)I"⟩, 22) := ⟨⟨by decide +kernel, by decide +kernel⟩, List.mem_of_getElem? (i := 721) (by decide +kernel), List.mem_of_getElem? (i := 827) (by decide +kernel), List.mem_of_getElem? (i := 828) (by decide +kernel)⟩
theorem lw_p17 : lw_okq (⟨"ChoirWiresModel", "finds", "(IIII)I"⟩, 22) := ⟨⟨by decide +kernel, by decide +kernel⟩, List.mem_of_getElem? (i := 721) (by decide +kernel), List.mem_of_getElem? (i := 843) (by decide +kernel), List.mem_of_getElem? (i := 844) (by decide +kernel)⟩
theorem lw_p18 : lw_okq (⟨"ChoirWiresModel", "sings", "(I)Z"⟩, 22) := ⟨⟨by decide +kernel, by decide +kernel⟩, List.mem_of_getElem? (i := 721) (by decide +kernel), List.mem_of_getElem? (i := 858) (by decide +kernel), List.mem_of_getElem? (i := 859) (by decide +kernel)⟩
theorem lw_p19 : lw_okq (⟨"ChoirWiresModel", "laysBeats", "(II)V"⟩, 22) := ⟨⟨by decide +kernel, by decide +kernel⟩, List.mem_of_getElem? (i := 721) (by decide +kernel), List.mem_of_getElem? (i := 863) (by decide +kernel), List.mem_of_getElem? (i := 864) (by decide +kernel)⟩
theorem lw_p20 : lw_okq (⟨"ChoirWiresModel", "pull", "(III)I"⟩, 22) := ⟨⟨by decide +kernel, by decide +kernel⟩, List.mem_of_getElem? (i := 721) (by decide +kernel), List.mem_of_getElem? (i := 867) (by decide +kernel), List.mem_of_getElem? (i := 868) (by decide +kernel)⟩
theorem lw_p21 : lw_okq (⟨"ChoirWiresModel", "singers", "()I"⟩, 22) := ⟨⟨by decide +kernel, by decide +kernel⟩, List.mem_of_getElem? (i := 721) (by decide +kernel), List.mem_of_getElem? (i := 875) (by decide +kernel), List.mem_of_getElem? (i := 876) (by decide +kernel)⟩
theorem lw_p22 : lw_okq (⟨"ChoirWiresModel", "paceBy", "(II)I"⟩, 22) := ⟨⟨by decide +kernel, by decide +kernel⟩, List.mem_of_getElem? (i := 721) (by decide +kernel), List.mem_of_getElem? (i := 879) (by decide +kernel), List.mem_of_getElem? (i := 880) (by decide +kernel)⟩
theorem lw_p23 : lw_okq (⟨"ChoirWiresModel", "isCut", "(I)Z"⟩, 22) := ⟨⟨by decide +kernel, by decide +kernel⟩, List.mem_of_getElem? (i := 721) (by decide +kernel), List.mem_of_getElem? (i := 903) (by decide +kernel), List.mem_of_getElem? (i := 904) (by decide +kernel)⟩
theorem lw_p24 : lw_okq (⟨"ChoirWiresModel", "bars", "(II)I"⟩, 22) := ⟨⟨by decide +kernel, by decide +kernel⟩, List.mem_of_getElem? (i := 721) (by decide +kernel), List.mem_of_getElem? (i := 912) (by decide +kernel), List.mem_of_getElem? (i := 913) (by decide +kernel)⟩
theorem lw_p25 : lw_okq (⟨"ChoirWiresModel", "reads", "(II)I"⟩, 22) := ⟨⟨by decide +kernel, by decide +kernel⟩, List.mem_of_getElem? (i := 721) (by decide +kernel), List.mem_of_getElem? (i := 927) (by decide +kernel), List.mem_of_getElem? (i := 928) (by decide +kernel)⟩
theorem lw_p26 : lw_okq (⟨"ChoirWiresModel", "next", "()I"⟩, 22) := ⟨⟨by decide +kernel, by decide +kernel⟩, List.mem_of_getElem? (i := 721) (by decide +kernel), List.mem_of_getElem? (i := 931) (by decide +kernel), List.mem_of_getElem? (i := 932) (by decide +kernel)⟩
theorem lw_p27 : lw_okq (⟨"ChoirWiresModel", "clashesAt", "(I)I"⟩, 22) := ⟨⟨by decide +kernel, by decide +kernel⟩, List.mem_of_getElem? (i := 721) (by decide +kernel), List.mem_of_getElem? (i := 952) (by decide +kernel), List.mem_of_getElem? (i := 953) (by decide +kernel)⟩
theorem lw_p28 : lw_okq (⟨"ChoirWiresModel", "tells", "(I)V"⟩, 22) := ⟨⟨by decide +kernel, by decide +kernel⟩, List.mem_of_getElem? (i := 721) (by decide +kernel), List.mem_of_getElem? (i := 975) (by decide +kernel), List.mem_of_getElem? (i := 976) (by decide +kernel)⟩
theorem lw_p29 : lw_okq (⟨"ChoirWiresModel", "lostBy", "(II)I"⟩, 22) := ⟨⟨by decide +kernel, by decide +kernel⟩, List.mem_of_getElem? (i := 721) (by decide +kernel), List.mem_of_getElem? (i := 993) (by decide +kernel), List.mem_of_getElem? (i := 994) (by decide +kernel)⟩
theorem lw_p30 : lw_okq (⟨"ChoirWiresModel", "parts", "(I)Z"⟩, 22) := ⟨⟨by decide +kernel, by decide +kernel⟩, List.mem_of_getElem? (i := 721) (by decide +kernel), List.mem_of_getElem? (i := 1014) (by decide +kernel), List.mem_of_getElem? (i := 1015) (by decide +kernel)⟩
theorem lw_p31 : lw_okq (⟨"ChoirWiresModel", "waitOf", "(I)I"⟩, 22) := ⟨⟨by decide +kernel, by decide +kernel⟩, List.mem_of_getElem? (i := 721) (by decide +kernel), List.mem_of_getElem? (i := 1018) (by decide +kernel), List.mem_of_getElem? (i := 1019) (by decide +kernel)⟩
def lw_privs_2 : List (MethodName × Nat) := [(⟨"ChoirWiresModel", "wireOf", "(II)I"⟩, 22), (⟨"ChoirWiresModel", "finds", "(IIII)I"⟩, 22), (⟨"ChoirWiresModel", "sings", "(I)Z"⟩, 22), (⟨"ChoirWiresModel", "laysBeats", "(II)V"⟩, 22), (⟨"ChoirWiresModel", "pull", "(III)I"⟩, 22), (⟨"ChoirWiresModel", "singers", "()I"⟩, 22), (⟨"ChoirWiresModel", "paceBy", "(II)I"⟩, 22), (⟨"ChoirWiresModel", "isCut", "(I)Z"⟩, 22), (⟨"ChoirWiresModel", "bars", "(II)I"⟩, 22), (⟨"ChoirWiresModel", "reads", "(II)I"⟩, 22), (⟨"ChoirWiresModel", "next", "()I"⟩, 22), (⟨"ChoirWiresModel", "clashesAt", "(I)I"⟩, 22), (⟨"ChoirWiresModel", "tells", "(I)V"⟩, 22), (⟨"ChoirWiresModel", "lostBy", "(II)I"⟩, 22), (⟨"ChoirWiresModel", "parts", "(I)Z"⟩, 22), (⟨"ChoirWiresModel", "waitOf", "(I)I"⟩, 22)]
theorem lw_r2 : ∀ q ∈ lw_privs_2, lw_okq q := List.forall_mem_cons.mpr ⟨lw_p16, List.forall_mem_cons.mpr ⟨lw_p17, List.forall_mem_cons.mpr ⟨lw_p18, List.forall_mem_cons.mpr ⟨lw_p19, List.forall_mem_cons.mpr ⟨lw_p20, List.forall_mem_cons.mpr ⟨lw_p21, List.forall_mem_cons.mpr ⟨lw_p22, List.forall_mem_cons.mpr ⟨lw_p23, List.forall_mem_cons.mpr ⟨lw_p24, List.forall_mem_cons.mpr ⟨lw_p25, List.forall_mem_cons.mpr ⟨lw_p26, List.forall_mem_cons.mpr ⟨lw_p27, List.forall_mem_cons.mpr ⟨lw_p28, List.forall_mem_cons.mpr ⟨lw_p29, List.forall_mem_cons.mpr ⟨lw_p30, List.forall_mem_cons.mpr ⟨lw_p31, fun _ h => absurd h List.not_mem_nil⟩⟩⟩⟩⟩⟩⟩⟩⟩⟩⟩⟩⟩⟩⟩⟩
def lw_privs : List (MethodName × Nat) := lw_privs_1 ++ (lw_privs_2)
def lw_tbl : List Cond := k2_sels lw_privs ++ tables_1
theorem lw_privs_ok : ∀ q ∈ lw_privs, lw_okq q := by
  show ∀ q ∈ lw_privs_1 ++ (lw_privs_2), lw_okq q
  exact List.forall_mem_append.mpr ⟨lw_r1, lw_r2⟩
end
section
/-! ===== BEGIN printed: names, fields, word lists, decode rows ===== -/
def RX0 : String := "ChoirWires$Beats"
def TX0 : u_T := fun k => match k with
  | 0 => ("ChoirWires$Beats", "times", "[I", false)
  | 1 => ("ChoirWires$Beats", "before", "[I", false)
  | 2 => ("ChoirWires$Beats", "heard", "[I", true)
  | 3 => ("ChoirWires$Beats", "heardBy", "[I", true)
  | _ => ("ChoirWires$Beats", "wireSums", "[I", true)
def tyX0 : Nat → FieldType := fun k => match k with
  | 0 => .array .int
  | 1 => .array .int
  | 2 => .array .int
  | 3 => .array .int
  | _ => .array .int
abbrev wsX00 : List Cond := u_ws RX0 TX0 5
theorem nmX0 : ∀ a, a < 5 → ∀ b, b < 5 → a ≠ b → (TX0 a).2.1 ≠ (TX0 b).2.1 := by decide +kernel
theorem tyX0_ok : ∀ k, k < 5 → parseFieldDescriptor (TX0 k).2.2.1 = some (tyX0 k) := by decide +kernel
abbrev cX0_init : ByteArray := prog_2_method_1_code
def yX0_init : MethodName := ⟨RX0, "<init>", "()V"⟩
abbrev cX0_listen : ByteArray := prog_2_method_2_code
def yX0_listen : MethodName := ⟨RX0, "listen", "(LChoirWires$Rooms;)V"⟩
abbrev cX0_stretchWires : ByteArray := prog_2_method_3_code
def yX0_stretchWires : MethodName := ⟨RX0, "stretchWires", "(LChoirWires$Rooms;I)V"⟩
abbrev cX0_singTo : ByteArray := prog_2_method_4_code
def yX0_singTo : MethodName := ⟨RX0, "singTo", "(LChoirWires$Rooms;I)V"⟩
abbrev cX0_timeAt : ByteArray := prog_2_method_5_code
def yX0_timeAt : MethodName := ⟨RX0, "timeAt", "(LChoirWires$Rooms;II)I"⟩
abbrev cX0_meanLag : ByteArray := prog_2_method_6_code
def yX0_meanLag : MethodName := ⟨RX0, "meanLag", "(II)I"⟩
abbrev cX0_timeOf : ByteArray := prog_2_method_7_code
def yX0_timeOf : MethodName := ⟨RX0, "timeOf", "(I)I"⟩
abbrev cX0_meanPace : ByteArray := prog_2_method_8_code
def yX0_meanPace : MethodName := ⟨RX0, "meanPace", "(LChoirWires$Rooms;)I"⟩
abbrev cX0_spread : ByteArray := prog_2_method_9_code
def yX0_spread : MethodName := ⟨RX0, "spread", "(LChoirWires$Rooms;)I"⟩
def RX1 : String := "ChoirWires$Choir"
def TX1 : u_T := fun k => match k with
  | 0 => ("ChoirWires$Choir", "rooms", "LChoirWires$Rooms;", true)
  | 1 => ("ChoirWires$Choir", "text", "LChoirWires$Piece;", true)
  | 2 => ("ChoirWires$Choir", "losses", "LChoirWires$Losses;", true)
  | _ => ("ChoirWires$Choir", "fitting", "I", false)
def tyX1 : Nat → FieldType := fun k => match k with
  | 0 => .object "ChoirWires$Rooms"
  | 1 => .object "ChoirWires$Piece"
  | 2 => .object "ChoirWires$Losses"
  | _ => .int
abbrev wsX10 : List Cond := u_ws RX1 TX1 4
theorem nmX1 : ∀ a, a < 4 → ∀ b, b < 4 → a ≠ b → (TX1 a).2.1 ≠ (TX1 b).2.1 := by decide +kernel
theorem tyX1_ok : ∀ k, k < 4 → parseFieldDescriptor (TX1 k).2.2.1 = some (tyX1 k) := by decide +kernel
abbrev cX1_init : ByteArray := prog_3_method_1_code
def yX1_init : MethodName := ⟨RX1, "<init>", "()V"⟩
abbrev cX1_take : ByteArray := prog_3_method_2_code
def yX1_take : MethodName := ⟨RX1, "take", "(LChoirWires$Choir;)V"⟩
def RX2 : String := "ChoirWires$Ears"
def TX2 : u_T := fun k => match k with
  | _ => ("ChoirWires$Ears", "leads", "[I", true)
def tyX2 : Nat → FieldType := fun k => match k with
  | _ => .array .int
abbrev wsX20 : List Cond := u_ws RX2 TX2 1
theorem nmX2 : ∀ a, a < 1 → ∀ b, b < 1 → a ≠ b → (TX2 a).2.1 ≠ (TX2 b).2.1 := by decide +kernel
theorem tyX2_ok : ∀ k, k < 1 → parseFieldDescriptor (TX2 k).2.2.1 = some (tyX2 k) := by decide +kernel
abbrev cX2_init : ByteArray := prog_4_method_1_code
def yX2_init : MethodName := ⟨RX2, "<init>", "()V"⟩
abbrev cX2_firstFailing : ByteArray := prog_4_method_2_code
def yX2_firstFailing : MethodName := ⟨RX2, "firstFailing", "(LChoirWires$Rooms;I)I"⟩
abbrev cX2_lead : ByteArray := prog_4_method_3_code
def yX2_lead : MethodName := ⟨RX2, "lead", "(LChoirWires$Rooms;II)V"⟩
abbrev cX2_agrees : ByteArray := prog_4_method_4_code
def yX2_agrees : MethodName := ⟨RX2, "agrees", "(LChoirWires$Rooms;II)Z"⟩
abbrev cX2_leadOf : ByteArray := prog_4_method_5_code
def yX2_leadOf : MethodName := ⟨RX2, "leadOf", "(I)I"⟩
def RX3 : String := "ChoirWires$Losses"
def TX3 : u_T := fun k => match k with
  | 0 => ("ChoirWires$Losses", "number", "I", false)
  | _ => ("ChoirWires$Losses", "rows", "[J", true)
def tyX3 : Nat → FieldType := fun k => match k with
  | 0 => .int
  | _ => .array .long
abbrev wsX30 : List Cond := u_ws RX3 TX3 2
theorem nmX3 : ∀ a, a < 2 → ∀ b, b < 2 → a ≠ b → (TX3 a).2.1 ≠ (TX3 b).2.1 := by decide +kernel
theorem tyX3_ok : ∀ k, k < 2 → parseFieldDescriptor (TX3 k).2.2.1 = some (tyX3 k) := by decide +kernel
abbrev cX3_init : ByteArray := prog_5_method_1_code
def yX3_init : MethodName := ⟨RX3, "<init>", "()V"⟩
abbrev cX3_take : ByteArray := prog_5_method_2_code
def yX3_take : MethodName := ⟨RX3, "take", "(LChoirWires$Losses;)V"⟩
abbrev cX3_add : ByteArray := prog_5_method_3_code
def yX3_add : MethodName := ⟨RX3, "add", "(J)I"⟩
abbrev cX3_lostOf : ByteArray := prog_5_method_4_code
def yX3_lostOf : MethodName := ⟨RX3, "lostOf", "(II)I"⟩
abbrev cX3_losesNothing : ByteArray := prog_5_method_5_code
def yX3_losesNothing : MethodName := ⟨RX3, "losesNothing", "(I)Z"⟩
def RX4 : String := "ChoirWires$Nets"
def TX4 : u_T := fun k => match k with
  | 0 => ("ChoirWires$Nets", "size", "I", false)
  | 1 => ("ChoirWires$Nets", "members", "[I", true)
  | 2 => ("ChoirWires$Nets", "code", "[I", true)
  | 3 => ("ChoirWires$Nets", "pairs", "[I", true)
  | 4 => ("ChoirWires$Nets", "leaves", "[I", true)
  | 5 => ("ChoirWires$Nets", "parents", "[I", true)
  | _ => ("ChoirWires$Nets", "ways", "[I", true)
def tyX4 : Nat → FieldType := fun k => match k with
  | 0 => .int
  | 1 => .array .int
  | 2 => .array .int
  | 3 => .array .int
  | 4 => .array .int
  | 5 => .array .int
  | _ => .array .int
abbrev wsX40 : List Cond := u_ws RX4 TX4 7
theorem nmX4 : ∀ a, a < 7 → ∀ b, b < 7 → a ≠ b → (TX4 a).2.1 ≠ (TX4 b).2.1 := by decide +kernel
theorem tyX4_ok : ∀ k, k < 7 → parseFieldDescriptor (TX4 k).2.2.1 = some (tyX4 k) := by decide +kernel
abbrev cX4_init : ByteArray := prog_6_method_1_code
def yX4_init : MethodName := ⟨RX4, "<init>", "()V"⟩
abbrev cX4_leastWait : ByteArray := prog_6_method_2_code
def yX4_leastWait : MethodName := ⟨RX4, "leastWait", "(LChoirWires$Rooms;)I"⟩
abbrev cX4_gather : ByteArray := prog_6_method_3_code
def yX4_gather : MethodName := ⟨RX4, "gather", "(LChoirWires$Rooms;)V"⟩
abbrev cX4_decode : ByteArray := prog_6_method_4_code
def yX4_decode : MethodName := ⟨RX4, "decode", "(LChoirWires$Rooms;I)Z"⟩
abbrev cX4_takeLeaf : ByteArray := prog_6_method_5_code
def yX4_takeLeaf : MethodName := ⟨RX4, "takeLeaf", "()I"⟩
abbrev cX4_blinksOf : ByteArray := prog_6_method_6_code
def yX4_blinksOf : MethodName := ⟨RX4, "blinksOf", "(LChoirWires$Rooms;II)I"⟩
abbrev cX4_greatestWait : ByteArray := prog_6_method_7_code
def yX4_greatestWait : MethodName := ⟨RX4, "greatestWait", "(LChoirWires$Rooms;)I"⟩
abbrev cX4_join : ByteArray := prog_6_method_8_code
def yX4_join : MethodName := ⟨RX4, "join", "(LChoirWires$Rooms;III)I"⟩
def RX5 : String := "ChoirWires$Piece"
def TX5 : u_T := fun k => match k with
  | 0 => ("ChoirWires$Piece", "length", "I", false)
  | _ => ("ChoirWires$Piece", "sounds", "[I", true)
def tyX5 : Nat → FieldType := fun k => match k with
  | 0 => .int
  | _ => .array .int
abbrev wsX50 : List Cond := u_ws RX5 TX5 2
theorem nmX5 : ∀ a, a < 2 → ∀ b, b < 2 → a ≠ b → (TX5 a).2.1 ≠ (TX5 b).2.1 := by decide +kernel
theorem tyX5_ok : ∀ k, k < 2 → parseFieldDescriptor (TX5 k).2.2.1 = some (tyX5 k) := by decide +kernel
abbrev cX5_init : ByteArray := prog_7_method_1_code
def yX5_init : MethodName := ⟨RX5, "<init>", "()V"⟩
abbrev cX5_take : ByteArray := prog_7_method_2_code
def yX5_take : MethodName := ⟨RX5, "take", "(LChoirWires$Piece;)V"⟩
abbrev cX5_append : ByteArray := prog_7_method_3_code
def yX5_append : MethodName := ⟨RX5, "append", "(IIZ)V"⟩
abbrev cX5_breaths : ByteArray := prog_7_method_4_code
def yX5_breaths : MethodName := ⟨RX5, "breaths", "()I"⟩
abbrev cX5_behindLastBreath : ByteArray := prog_7_method_5_code
def yX5_behindLastBreath : MethodName := ⟨RX5, "behindLastBreath", "(I)I"⟩
abbrev cX5_clashesAt : ByteArray := prog_7_method_6_code
def yX5_clashesAt : MethodName := ⟨RX5, "clashesAt", "(II)I"⟩
def RX6 : String := "ChoirWires$Rooms"
def TX6 : u_T := fun k => match k with
  | 0 => ("ChoirWires$Rooms", "number", "I", false)
  | 1 => ("ChoirWires$Rooms", "blinksOfBeat", "I", false)
  | 2 => ("ChoirWires$Rooms", "mostPairs", "I", false)
  | 3 => ("ChoirWires$Rooms", "values", "[I", true)
  | 4 => ("ChoirWires$Rooms", "blinks", "[I", true)
  | _ => ("ChoirWires$Rooms", "lostWords", "[I", true)
def tyX6 : Nat → FieldType := fun k => match k with
  | 0 => .int
  | 1 => .int
  | 2 => .int
  | 3 => .array .int
  | 4 => .array .int
  | _ => .array .int
abbrev wsX60 : List Cond := u_ws RX6 TX6 6
theorem nmX6 : ∀ a, a < 6 → ∀ b, b < 6 → a ≠ b → (TX6 a).2.1 ≠ (TX6 b).2.1 := by decide +kernel
theorem tyX6_ok : ∀ k, k < 6 → parseFieldDescriptor (TX6 k).2.2.1 = some (tyX6 k) := by decide +kernel
abbrev cX6_init : ByteArray := prog_8_method_1_code
def yX6_init : MethodName := ⟨RX6, "<init>", "()V"⟩
abbrev cX6_take : ByteArray := prog_8_method_2_code
def yX6_take : MethodName := ⟨RX6, "take", "(LChoirWires$Rooms;)V"⟩
abbrev cX6_add : ByteArray := prog_8_method_3_code
def yX6_add : MethodName := ⟨RX6, "add", "(I)I"⟩
abbrev cX6_has : ByteArray := prog_8_method_4_code
def yX6_has : MethodName := ⟨RX6, "has", "(I)Z"⟩
abbrev cX6_hasTwo : ByteArray := prog_8_method_5_code
def yX6_hasTwo : MethodName := ⟨RX6, "hasTwo", "(II)Z"⟩
abbrev cX6_value : ByteArray := prog_8_method_6_code
def yX6_value : MethodName := ⟨RX6, "value", "(II)I"⟩
abbrev cX6_change : ByteArray := prog_8_method_7_code
def yX6_change : MethodName := ⟨RX6, "change", "(III)I"⟩
abbrev cX6_sings : ByteArray := prog_8_method_8_code
def yX6_sings : MethodName := ⟨RX6, "sings", "(I)Z"⟩
abbrev cX6_isCut : ByteArray := prog_8_method_9_code
def yX6_isCut : MethodName := ⟨RX6, "isCut", "(I)Z"⟩
abbrev cX6_all : ByteArray := prog_8_method_10_code
def yX6_all : MethodName := ⟨RX6, "all", "()I"⟩
abbrev cX6_singers : ByteArray := prog_8_method_11_code
def yX6_singers : MethodName := ⟨RX6, "singers", "()I"⟩
abbrev cX6_uncut : ByteArray := prog_8_method_12_code
def yX6_uncut : MethodName := ⟨RX6, "uncut", "()I"⟩
abbrev cX6_between : ByteArray := prog_8_method_13_code
def yX6_between : MethodName := ⟨RX6, "between", "(II)I"⟩
abbrev cX6_lay : ByteArray := prog_8_method_14_code
def yX6_lay : MethodName := ⟨RX6, "lay", "(III)I"⟩
abbrev cX6_canLayAll : ByteArray := prog_8_method_15_code
def yX6_canLayAll : MethodName := ⟨RX6, "canLayAll", "(ILChoirWires$Sheet;I)Z"⟩
abbrev cX6_layAll : ByteArray := prog_8_method_16_code
def yX6_layAll : MethodName := ⟨RX6, "layAll", "(ILChoirWires$Sheet;I)I"⟩
abbrev cX6_wiresInAll : ByteArray := prog_8_method_17_code
def yX6_wiresInAll : MethodName := ⟨RX6, "wiresInAll", "()I"⟩
abbrev cX6_reachedByAll : ByteArray := prog_8_method_18_code
def yX6_reachedByAll : MethodName := ⟨RX6, "reachedByAll", "(II)Z"⟩
abbrev cX6_longestWire : ByteArray := prog_8_method_19_code
def yX6_longestWire : MethodName := ⟨RX6, "longestWire", "(II)I"⟩
abbrev cX6_shortestWire : ByteArray := prog_8_method_20_code
def yX6_shortestWire : MethodName := ⟨RX6, "shortestWire", "(II)I"⟩
abbrev cX6_costOfHolding : ByteArray := prog_8_method_21_code
def yX6_costOfHolding : MethodName := ⟨RX6, "costOfHolding", "(III)I"⟩
abbrev cX6_leastBeat : ByteArray := prog_8_method_22_code
def yX6_leastBeat : MethodName := ⟨RX6, "leastBeat", "(I)I"⟩
abbrev cX6_losesWord : ByteArray := prog_8_method_23_code
def yX6_losesWord : MethodName := ⟨RX6, "losesWord", "(III)Z"⟩
abbrev cX6_loseWord : ByteArray := prog_8_method_24_code
def yX6_loseWord : MethodName := ⟨RX6, "loseWord", "(IIIZ)I"⟩
def RX7 : String := "ChoirWires$Sheet"
def TX7 : u_T := fun k => match k with
  | 0 => ("ChoirWires$Sheet", "lane", "I", false)
  | 1 => ("ChoirWires$Sheet", "length", "I", false)
  | _ => ("ChoirWires$Sheet", "items", "[I", true)
def tyX7 : Nat → FieldType := fun k => match k with
  | 0 => .int
  | 1 => .int
  | _ => .array .int
abbrev wsX70 : List Cond := u_ws RX7 TX7 3
theorem nmX7 : ∀ a, a < 3 → ∀ b, b < 3 → a ≠ b → (TX7 a).2.1 ≠ (TX7 b).2.1 := by decide +kernel
theorem tyX7_ok : ∀ k, k < 3 → parseFieldDescriptor (TX7 k).2.2.1 = some (tyX7 k) := by decide +kernel
abbrev cX7_init : ByteArray := prog_9_method_1_code
def yX7_init : MethodName := ⟨RX7, "<init>", "()V"⟩
abbrev cX7_refusal : ByteArray := prog_9_method_2_code
def yX7_refusal : MethodName := ⟨RX7, "refusal", "(I)I"⟩
abbrev cX7_holds : ByteArray := prog_9_method_3_code
def yX7_holds : MethodName := ⟨RX7, "holds", "(II)Z"⟩
abbrev cX7_renew : ByteArray := prog_9_method_4_code
def yX7_renew : MethodName := ⟨RX7, "renew", "(II)I"⟩
abbrev cX7_empty : ByteArray := prog_9_method_5_code
def yX7_empty : MethodName := ⟨RX7, "empty", "()I"⟩
abbrev cX7_put : ByteArray := prog_9_method_6_code
def yX7_put : MethodName := ⟨RX7, "put", "(II)I"⟩
def RX8 : String := "ChoirWires$Tape"
def TX8 : u_T := fun k => match k with
  | 0 => ("ChoirWires$Tape", "length", "I", false)
  | 1 => ("ChoirWires$Tape", "draft", "LChoirWires$Piece;", true)
  | 2 => ("ChoirWires$Tape", "bytes", "[B", true)
  | _ => ("ChoirWires$Tape", "place", "I", false)
def tyX8 : Nat → FieldType := fun k => match k with
  | 0 => .int
  | 1 => .object "ChoirWires$Piece"
  | 2 => .array .byte
  | _ => .int
abbrev wsX80 : List Cond := u_ws RX8 TX8 4
theorem nmX8 : ∀ a, a < 4 → ∀ b, b < 4 → a ≠ b → (TX8 a).2.1 ≠ (TX8 b).2.1 := by decide +kernel
theorem tyX8_ok : ∀ k, k < 4 → parseFieldDescriptor (TX8 k).2.2.1 = some (tyX8 k) := by decide +kernel
abbrev cX8_init : ByteArray := prog_10_method_1_code
def yX8_init : MethodName := ⟨RX8, "<init>", "()V"⟩
abbrev cX8_canStand : ByteArray := prog_10_method_2_code
def yX8_canStand : MethodName := ⟨RX8, "canStand", "(JI)Z"⟩
abbrev cX8_append : ByteArray := prog_10_method_3_code
def yX8_append : MethodName := ⟨RX8, "append", "(JI)I"⟩
abbrev cX8_read : ByteArray := prog_10_method_4_code
def yX8_read : MethodName := ⟨RX8, "read", "()I"⟩
abbrev cX8_readSound : ByteArray := prog_10_method_5_code
def yX8_readSound : MethodName := ⟨RX8, "readSound", "(I)Z"⟩
abbrev cX8_peek : ByteArray := prog_10_method_6_code
def yX8_peek : MethodName := ⟨RX8, "peek", "()I"⟩
def RX9 : String := "ChoirWires$Words"
def TX9 : u_T := fun k => match k with
  | 0 => ("ChoirWires$Words", "known", "[I", false)
  | _ => ("ChoirWires$Words", "before", "[I", false)
def tyX9 : Nat → FieldType := fun k => match k with
  | 0 => .array .int
  | _ => .array .int
abbrev wsX90 : List Cond := u_ws RX9 TX9 2
theorem nmX9 : ∀ a, a < 2 → ∀ b, b < 2 → a ≠ b → (TX9 a).2.1 ≠ (TX9 b).2.1 := by decide +kernel
theorem tyX9_ok : ∀ k, k < 2 → parseFieldDescriptor (TX9 k).2.2.1 = some (tyX9 k) := by decide +kernel
abbrev cX9_init : ByteArray := prog_11_method_1_code
def yX9_init : MethodName := ⟨RX9, "<init>", "()V"⟩
abbrev cX9_tellFor : ByteArray := prog_11_method_2_code
def yX9_tellFor : MethodName := ⟨RX9, "tellFor", "(LChoirWires$Rooms;I)V"⟩
abbrev cX9_toldTo : ByteArray := prog_11_method_3_code
def yX9_toldTo : MethodName := ⟨RX9, "toldTo", "(LChoirWires$Rooms;II)I"⟩
abbrev cX9_knownTo : ByteArray := prog_11_method_4_code
def yX9_knownTo : MethodName := ⟨RX9, "knownTo", "(I)I"⟩
def RX10 : String := "ChoirWires"
def TX10 : u_T := fun k => match k with
  | 0 => ("ChoirWires", "now", "LChoirWires$Choir;", true)
  | 1 => ("ChoirWires", "images", "[LChoirWires$Choir;", true)
  | 2 => ("ChoirWires", "tape", "LChoirWires$Tape;", true)
  | 3 => ("ChoirWires", "sheets", "[LChoirWires$Sheet;", true)
  | 4 => ("ChoirWires", "beats", "LChoirWires$Beats;", true)
  | 5 => ("ChoirWires", "listeners", "LChoirWires$Ears;", true)
  | 6 => ("ChoirWires", "words", "LChoirWires$Words;", true)
  | _ => ("ChoirWires", "nets", "LChoirWires$Nets;", true)
def tyX10 : Nat → FieldType := fun k => match k with
  | 0 => .object "ChoirWires$Choir"
  | 1 => .array (.object "ChoirWires$Choir")
  | 2 => .object "ChoirWires$Tape"
  | 3 => .array (.object "ChoirWires$Sheet")
  | 4 => .object "ChoirWires$Beats"
  | 5 => .object "ChoirWires$Ears"
  | 6 => .object "ChoirWires$Words"
  | _ => .object "ChoirWires$Nets"
abbrev wsX100 : List Cond := u_ws RX10 TX10 8
theorem nmX10 : ∀ a, a < 8 → ∀ b, b < 8 → a ≠ b → (TX10 a).2.1 ≠ (TX10 b).2.1 := by decide +kernel
theorem tyX10_ok : ∀ k, k < 8 → parseFieldDescriptor (TX10 k).2.2.1 = some (tyX10 k) := by decide +kernel
abbrev cX10_init : ByteArray := prog_1_method_1_code
def yX10_init : MethodName := ⟨RX10, "<init>", "()V"⟩
abbrev cX10_room : ByteArray := prog_1_method_2_code
def yX10_room : MethodName := ⟨RX10, "room", "(I)I"⟩
abbrev cX10_set : ByteArray := prog_1_method_3_code
def yX10_set : MethodName := ⟨RX10, "set", "(III)I"⟩
abbrev cX10_wire : ByteArray := prog_1_method_4_code
def yX10_wire : MethodName := ⟨RX10, "wire", "(III)I"⟩
abbrev cX10_wires : ByteArray := prog_1_method_5_code
def yX10_wires : MethodName := ⟨RX10, "wires", "(IIII)I"⟩
abbrev cX10_pace : ByteArray := prog_1_method_6_code
def yX10_pace : MethodName := ⟨RX10, "pace", "(I)I"⟩
abbrev cX10_time : ByteArray := prog_1_method_7_code
def yX10_time : MethodName := ⟨RX10, "time", "(II)I"⟩
abbrev cX10_paceAt : ByteArray := prog_1_method_8_code
def yX10_paceAt : MethodName := ⟨RX10, "paceAt", "(I)I"⟩
abbrev cX10_slows : ByteArray := prog_1_method_9_code
def yX10_slows : MethodName := ⟨RX10, "slows", "(II)I"⟩
abbrev cX10_apart : ByteArray := prog_1_method_10_code
def yX10_apart : MethodName := ⟨RX10, "apart", "(I)I"⟩
abbrev cX10_count : ByteArray := prog_1_method_11_code
def yX10_count : MethodName := ⟨RX10, "count", "(I)I"⟩
abbrev cX10_hold : ByteArray := prog_1_method_12_code
def yX10_hold : MethodName := ⟨RX10, "hold", "(II)I"⟩
abbrev cX10_together : ByteArray := prog_1_method_13_code
def yX10_together : MethodName := ⟨RX10, "together", "(II)I"⟩
abbrev cX10_type : ByteArray := prog_1_method_14_code
def yX10_type : MethodName := ⟨RX10, "type", "(JI)I"⟩
abbrev cX10_piece : ByteArray := prog_1_method_15_code
def yX10_piece : MethodName := ⟨RX10, "piece", "()I"⟩
abbrev cX10_sound : ByteArray := prog_1_method_16_code
def yX10_sound : MethodName := ⟨RX10, "sound", "(I)I"⟩
abbrev cX10_fit : ByteArray := prog_1_method_17_code
def yX10_fit : MethodName := ⟨RX10, "fit", "(I)I"⟩
abbrev cX10_clashes : ByteArray := prog_1_method_18_code
def yX10_clashes : MethodName := ⟨RX10, "clashes", "(I)I"⟩
abbrev cX10_canon : ByteArray := prog_1_method_19_code
def yX10_canon : MethodName := ⟨RX10, "canon", "(I)I"⟩
abbrev cX10_sea : ByteArray := prog_1_method_20_code
def yX10_sea : MethodName := ⟨RX10, "sea", "(II)I"⟩
abbrev cX10_lose : ByteArray := prog_1_method_21_code
def yX10_lose : MethodName := ⟨RX10, "lose", "(IIIZ)I"⟩
abbrev cX10_goes : ByteArray := prog_1_method_22_code
def yX10_goes : MethodName := ⟨RX10, "goes", "(II)I"⟩
abbrev cX10_knows : ByteArray := prog_1_method_23_code
def yX10_knows : MethodName := ⟨RX10, "knows", "(II)I"⟩
abbrev cX10_loss : ByteArray := prog_1_method_24_code
def yX10_loss : MethodName := ⟨RX10, "loss", "(J)I"⟩
abbrev cX10_lost : ByteArray := prog_1_method_25_code
def yX10_lost : MethodName := ⟨RX10, "lost", "(II)I"⟩
abbrev cX10_group : ByteArray := prog_1_method_26_code
def yX10_group : MethodName := ⟨RX10, "group", "()I"⟩
abbrev cX10_clear : ByteArray := prog_1_method_27_code
def yX10_clear : MethodName := ⟨RX10, "clear", "()I"⟩
abbrev cX10_most : ByteArray := prog_1_method_28_code
def yX10_most : MethodName := ⟨RX10, "most", "(I)I"⟩
abbrev cX10_net : ByteArray := prog_1_method_29_code
def yX10_net : MethodName := ⟨RX10, "net", "()I"⟩
abbrev cX10_image : ByteArray := prog_1_method_30_code
def yX10_image : MethodName := ⟨RX10, "image", "(I)I"⟩
abbrev cX10_restore : ByteArray := prog_1_method_31_code
def yX10_restore : MethodName := ⟨RX10, "restore", "(I)I"⟩
abbrev cX10_sheet : ByteArray := prog_1_method_32_code
def yX10_sheet : MethodName := ⟨RX10, "sheet", "(III)I"⟩
abbrev cX10_drop : ByteArray := prog_1_method_33_code
def yX10_drop : MethodName := ⟨RX10, "drop", "(I)I"⟩
abbrev cX10_item : ByteArray := prog_1_method_34_code
def yX10_item : MethodName := ⟨RX10, "item", "(IIII)I"⟩
abbrev cX10_copy : ByteArray := prog_1_method_35_code
def yX10_copy : MethodName := ⟨RX10, "copy", "(IIIII)I"⟩
abbrev cX10_isSheet : ByteArray := prog_1_method_36_code
def yX10_isSheet : MethodName := ⟨RX10, "isSheet", "(I)Z"⟩
abbrev cX10_isLane : ByteArray := prog_1_method_37_code
def yX10_isLane : MethodName := ⟨RX10, "isLane", "(I)Z"⟩
def RX11 : String := "ChoirWiresModel"
def TX11 : u_T := fun k => match k with
  | 0 => ("ChoirWiresModel", "row", "[I", true)
  | 1 => ("ChoirWiresModel", "losses", "[J", true)
  | 2 => ("ChoirWiresModel", "times", "[I", true)
  | 3 => ("ChoirWiresModel", "aheads", "[I", true)
  | 4 => ("ChoirWiresModel", "tape", "[I", true)
  | 5 => ("ChoirWiresModel", "taped", "I", false)
  | 6 => ("ChoirWiresModel", "at", "I", false)
  | 7 => ("ChoirWiresModel", "read", "[I", true)
  | 8 => ("ChoirWiresModel", "known", "[I", true)
  | 9 => ("ChoirWiresModel", "knownThen", "[I", true)
  | 10 => ("ChoirWiresModel", "here", "[I", true)
  | 11 => ("ChoirWiresModel", "code", "[I", true)
  | 12 => ("ChoirWiresModel", "left", "[I", true)
  | 13 => ("ChoirWiresModel", "ends", "[I", true)
  | 14 => ("ChoirWiresModel", "along", "[I", true)
  | 15 => ("ChoirWiresModel", "images", "[I", true)
  | 16 => ("ChoirWiresModel", "imageLosses", "[J", true)
  | 17 => ("ChoirWiresModel", "isKept", "[Z", true)
  | 18 => ("ChoirWiresModel", "lanes", "[I", true)
  | 19 => ("ChoirWiresModel", "sizes", "[I", true)
  | 20 => ("ChoirWiresModel", "items", "[I", true)
  | _ => ("ChoirWiresModel", "moved", "[I", true)
def tyX11 : Nat → FieldType := fun k => match k with
  | 0 => .array .int
  | 1 => .array .long
  | 2 => .array .int
  | 3 => .array .int
  | 4 => .array .int
  | 5 => .int
  | 6 => .int
  | 7 => .array .int
  | 8 => .array .int
  | 9 => .array .int
  | 10 => .array .int
  | 11 => .array .int
  | 12 => .array .int
  | 13 => .array .int
  | 14 => .array .int
  | 15 => .array .int
  | 16 => .array .long
  | 17 => .array .boolean
  | 18 => .array .int
  | 19 => .array .int
  | 20 => .array .int
  | _ => .array .int
abbrev wsX110 : List Cond := u_ws RX11 TX11 22
theorem nmX11 : ∀ a, a < 22 → ∀ b, b < 22 → a ≠ b → (TX11 a).2.1 ≠ (TX11 b).2.1 := by decide +kernel
theorem tyX11_ok : ∀ k, k < 22 → parseFieldDescriptor (TX11 k).2.2.1 = some (tyX11 k) := by decide +kernel
abbrev cX11_in : ByteArray := prog_13_method_2_code
def yX11_in : MethodName := ⟨RX11, "in", "(JJJ)Z"⟩
abbrev cX11_init : ByteArray := prog_13_method_3_code
def yX11_init : MethodName := ⟨RX11, "<init>", "()V"⟩
abbrev cX11_rooms : ByteArray := prog_13_method_4_code
def yX11_rooms : MethodName := ⟨RX11, "rooms", "()I"⟩
abbrev cX11_isRoom : ByteArray := prog_13_method_5_code
def yX11_isRoom : MethodName := ⟨RX11, "isRoom", "(I)Z"⟩
abbrev cX11_of : ByteArray := prog_13_method_6_code
def yX11_of : MethodName := ⟨RX11, "of", "(II)I"⟩
abbrev cX11_wireOf : ByteArray := prog_13_method_7_code
def yX11_wireOf : MethodName := ⟨RX11, "wireOf", "(II)I"⟩
abbrev cX11_sings : ByteArray := prog_13_method_8_code
def yX11_sings : MethodName := ⟨RX11, "sings", "(I)Z"⟩
abbrev cX11_isCut : ByteArray := prog_13_method_9_code
def yX11_isCut : MethodName := ⟨RX11, "isCut", "(I)Z"⟩
abbrev cX11_highest : ByteArray := prog_13_method_10_code
def yX11_highest : MethodName := ⟨RX11, "highest", "(I)I"⟩
abbrev cX11_room : ByteArray := prog_13_method_11_code
def yX11_room : MethodName := ⟨RX11, "room", "(I)I"⟩
abbrev cX11_set : ByteArray := prog_13_method_12_code
def yX11_set : MethodName := ⟨RX11, "set", "(III)I"⟩
abbrev cX11_wire : ByteArray := prog_13_method_13_code
def yX11_wire : MethodName := ⟨RX11, "wire", "(III)I"⟩
abbrev cX11_wires : ByteArray := prog_13_method_14_code
def yX11_wires : MethodName := ⟨RX11, "wires", "(IIII)I"⟩
abbrev cX11_pace : ByteArray := prog_13_method_15_code
def yX11_pace : MethodName := ⟨RX11, "pace", "(I)I"⟩
abbrev cX11_pull : ByteArray := prog_13_method_16_code
def yX11_pull : MethodName := ⟨RX11, "pull", "(III)I"⟩
abbrev cX11_laysBeats : ByteArray := prog_13_method_17_code
def yX11_laysBeats : MethodName := ⟨RX11, "laysBeats", "(II)V"⟩
abbrev cX11_time : ByteArray := prog_13_method_18_code
def yX11_time : MethodName := ⟨RX11, "time", "(II)I"⟩
abbrev cX11_singers : ByteArray := prog_13_method_19_code
def yX11_singers : MethodName := ⟨RX11, "singers", "()I"⟩
abbrev cX11_size : ByteArray := prog_13_method_20_code
def yX11_size : MethodName := ⟨RX11, "size", "(I)I"⟩
abbrev cX11_paceBy : ByteArray := prog_13_method_21_code
def yX11_paceBy : MethodName := ⟨RX11, "paceBy", "(II)I"⟩
abbrev cX11_paceAt : ByteArray := prog_13_method_22_code
def yX11_paceAt : MethodName := ⟨RX11, "paceAt", "(I)I"⟩
abbrev cX11_slows : ByteArray := prog_13_method_23_code
def yX11_slows : MethodName := ⟨RX11, "slows", "(II)I"⟩
abbrev cX11_apart : ByteArray := prog_13_method_24_code
def yX11_apart : MethodName := ⟨RX11, "apart", "(I)I"⟩
abbrev cX11_count : ByteArray := prog_13_method_25_code
def yX11_count : MethodName := ⟨RX11, "count", "(I)I"⟩
abbrev cX11_hold : ByteArray := prog_13_method_26_code
def yX11_hold : MethodName := ⟨RX11, "hold", "(II)I"⟩
abbrev cX11_bars : ByteArray := prog_13_method_27_code
def yX11_bars : MethodName := ⟨RX11, "bars", "(II)I"⟩
abbrev cX11_together : ByteArray := prog_13_method_28_code
def yX11_together : MethodName := ⟨RX11, "together", "(II)I"⟩
abbrev cX11_type : ByteArray := prog_13_method_29_code
def yX11_type : MethodName := ⟨RX11, "type", "(JI)I"⟩
abbrev cX11_next : ByteArray := prog_13_method_30_code
def yX11_next : MethodName := ⟨RX11, "next", "()I"⟩
abbrev cX11_reads : ByteArray := prog_13_method_31_code
def yX11_reads : MethodName := ⟨RX11, "reads", "(II)I"⟩
abbrev cX11_piece : ByteArray := prog_13_method_32_code
def yX11_piece : MethodName := ⟨RX11, "piece", "()I"⟩
abbrev cX11_sound : ByteArray := prog_13_method_33_code
def yX11_sound : MethodName := ⟨RX11, "sound", "(I)I"⟩
abbrev cX11_fit : ByteArray := prog_13_method_34_code
def yX11_fit : MethodName := ⟨RX11, "fit", "(I)I"⟩
abbrev cX11_clashesAt : ByteArray := prog_13_method_35_code
def yX11_clashesAt : MethodName := ⟨RX11, "clashesAt", "(I)I"⟩
abbrev cX11_clashes : ByteArray := prog_13_method_36_code
def yX11_clashes : MethodName := ⟨RX11, "clashes", "(I)I"⟩
abbrev cX11_canon : ByteArray := prog_13_method_37_code
def yX11_canon : MethodName := ⟨RX11, "canon", "(I)I"⟩
abbrev cX11_sea : ByteArray := prog_13_method_38_code
def yX11_sea : MethodName := ⟨RX11, "sea", "(II)I"⟩
abbrev cX11_lose : ByteArray := prog_13_method_39_code
def yX11_lose : MethodName := ⟨RX11, "lose", "(IIIZ)I"⟩
abbrev cX11_tells : ByteArray := prog_13_method_40_code
def yX11_tells : MethodName := ⟨RX11, "tells", "(I)V"⟩
abbrev cX11_knows : ByteArray := prog_13_method_41_code
def yX11_knows : MethodName := ⟨RX11, "knows", "(II)I"⟩
abbrev cX11_goes : ByteArray := prog_13_method_42_code
def yX11_goes : MethodName := ⟨RX11, "goes", "(II)I"⟩
abbrev cX11_loss : ByteArray := prog_13_method_43_code
def yX11_loss : MethodName := ⟨RX11, "loss", "(J)I"⟩
abbrev cX11_lostBy : ByteArray := prog_13_method_44_code
def yX11_lostBy : MethodName := ⟨RX11, "lostBy", "(II)I"⟩
abbrev cX11_lost : ByteArray := prog_13_method_45_code
def yX11_lost : MethodName := ⟨RX11, "lost", "(II)I"⟩
abbrev cX11_group : ByteArray := prog_13_method_46_code
def yX11_group : MethodName := ⟨RX11, "group", "()I"⟩
abbrev cX11_clear : ByteArray := prog_13_method_47_code
def yX11_clear : MethodName := ⟨RX11, "clear", "()I"⟩
abbrev cX11_most : ByteArray := prog_13_method_48_code
def yX11_most : MethodName := ⟨RX11, "most", "(I)I"⟩
abbrev cX11_parts : ByteArray := prog_13_method_49_code
def yX11_parts : MethodName := ⟨RX11, "parts", "(I)Z"⟩
abbrev cX11_waitOf : ByteArray := prog_13_method_50_code
def yX11_waitOf : MethodName := ⟨RX11, "waitOf", "(I)I"⟩
abbrev cX11_net : ByteArray := prog_13_method_51_code
def yX11_net : MethodName := ⟨RX11, "net", "()I"⟩
abbrev cX11_image : ByteArray := prog_13_method_52_code
def yX11_image : MethodName := ⟨RX11, "image", "(I)I"⟩
abbrev cX11_restore : ByteArray := prog_13_method_53_code
def yX11_restore : MethodName := ⟨RX11, "restore", "(I)I"⟩
abbrev cX11_isSheet : ByteArray := prog_13_method_54_code
def yX11_isSheet : MethodName := ⟨RX11, "isSheet", "(I)Z"⟩
abbrev cX11_isLane : ByteArray := prog_13_method_55_code
def yX11_isLane : MethodName := ⟨RX11, "isLane", "(I)Z"⟩
abbrev cX11_finds : ByteArray := prog_13_method_56_code
def yX11_finds : MethodName := ⟨RX11, "finds", "(IIII)I"⟩
abbrev cX11_sheet : ByteArray := prog_13_method_57_code
def yX11_sheet : MethodName := ⟨RX11, "sheet", "(III)I"⟩
abbrev cX11_drop : ByteArray := prog_13_method_58_code
def yX11_drop : MethodName := ⟨RX11, "drop", "(I)I"⟩
abbrev cX11_item : ByteArray := prog_13_method_59_code
def yX11_item : MethodName := ⟨RX11, "item", "(IIII)I"⟩
abbrev cX11_copy : ByteArray := prog_13_method_60_code
def yX11_copy : MethodName := ⟨RX11, "copy", "(IIIII)I"⟩
def RJ6 : String := "java/lang/Integer"
def TJ6 : u_T := fun k => match k with
  | _ => ("", "", "", false)
def tyJ6 : Nat → FieldType := fun k => match k with
  | _ => .int
abbrev wsJ60 : List Cond := u_ws RJ6 TJ6 0
theorem nmJ6 : ∀ a, a < 0 → ∀ b, b < 0 → a ≠ b → (TJ6 a).2.1 ≠ (TJ6 b).2.1 := by decide +kernel
theorem tyJ6_ok : ∀ k, k < 0 → parseFieldDescriptor (TJ6 k).2.2.1 = some (tyJ6 k) := by decide +kernel
abbrev cJ6_bitCount_0f7a4 : ByteArray := prog_14_method_49_code
def yJ6_bitCount_0f7a4 : MethodName := ⟨RJ6, "bitCount", "(I)I"⟩
def RJ9 : String := "java/lang/Math"
def TJ9 : u_T := fun k => match k with
  | _ => ("", "", "", false)
def tyJ9 : Nat → FieldType := fun k => match k with
  | _ => .int
abbrev wsJ90 : List Cond := u_ws RJ9 TJ9 0
theorem nmJ9 : ∀ a, a < 0 → ∀ b, b < 0 → a ≠ b → (TJ9 a).2.1 ≠ (TJ9 b).2.1 := by decide +kernel
theorem tyJ9_ok : ∀ k, k < 0 → parseFieldDescriptor (TJ9 k).2.2.1 = some (tyJ9 k) := by decide +kernel
abbrev cJ9_abs_0f7a4 : ByteArray := prog_15_method_59_code
def yJ9_abs_0f7a4 : MethodName := ⟨RJ9, "abs", "(I)I"⟩
abbrev cJ9_max_7cf53 : ByteArray := prog_15_method_65_code
def yJ9_max_7cf53 : MethodName := ⟨RJ9, "max", "(II)I"⟩
abbrev cJ9_min_7cf53 : ByteArray := prog_15_method_69_code
def yJ9_min_7cf53 : MethodName := ⟨RJ9, "min", "(II)I"⟩
def RJ10 : String := "java/lang/System"
def TJ10 : u_T := fun k => match k with
  | _ => ("", "", "", false)
def tyJ10 : Nat → FieldType := fun k => match k with
  | _ => .int
abbrev wsJ100 : List Cond := u_ws RJ10 TJ10 0
theorem nmJ10 : ∀ a, a < 0 → ∀ b, b < 0 → a ≠ b → (TJ10 a).2.1 ≠ (TJ10 b).2.1 := by decide +kernel
theorem tyJ10_ok : ∀ k, k < 0 → parseFieldDescriptor (TJ10 k).2.2.1 = some (tyJ10 k) := by decide +kernel
def RJ7 : String := "java/util/Arrays"
def TJ7 : u_T := fun k => match k with
  | _ => ("", "", "", false)
def tyJ7 : Nat → FieldType := fun k => match k with
  | _ => .int
abbrev wsJ70 : List Cond := u_ws RJ7 TJ7 0
theorem nmJ7 : ∀ a, a < 0 → ∀ b, b < 0 → a ≠ b → (TJ7 a).2.1 ≠ (TJ7 b).2.1 := by decide +kernel
theorem tyJ7_ok : ∀ k, k < 0 → parseFieldDescriptor (TJ7 k).2.2.1 = some (tyJ7 k) := by decide +kernel
abbrev cJ7_fill_53178 : ByteArray := prog_17_method_103_code
def yJ7_fill_53178 : MethodName := ⟨RJ7, "fill", "([II)V"⟩
def RL : String := "ChoirWiresLaw"
abbrev cL_law : ByteArray := code
def yL_law : MethodName := ⟨RL, "law", "([I)Z"⟩
end
section
/-! THE STATE, AND THE WORLD: every cell has a number (id); ints, longs and movable references of all cells in three memories -/
abbrev St : Type := (Nat → Nat → Int32) × (Nat → Nat → Int64) × (Nat → Nat → Nat)
def rI (S : St) (a k : Nat) : Int32 := S.1 a k
def rJ (S : St) (a k : Nat) : Int64 := S.2.1 a k
def rR (S : St) (a k : Nat) : Nat := S.2.2 a k
def wI (S : St) (a k : Nat) (v : Int32) : St := (fun x j => if x = a ∧ j = k then v else S.1 x j, S.2)
def wJ (S : St) (a k : Nat) (v : Int64) : St := (S.1, fun x j => if x = a ∧ j = k then v else S.2.1 x j, S.2.2)
def wR (S : St) (a k : Nat) (v : Nat) : St := (S.1, S.2.1, fun x j => if x = a ∧ j = k then v else S.2.2 x j)
/-- a stretch of ints copied between two cells -/
def cI (S : St) (a0 sp a1 dp n : Nat) : St := (fun x j => if x = a1 then va_cpy (S.1 a0) (S.1 a1) sp dp n j else S.1 x j, S.2)
def cJ (S : St) (a0 sp a1 dp n : Nat) : St := (S.1, fun x j => if x = a1 then va_cpy (S.2.1 a0) (S.2.1 a1) sp dp n j else S.2.1 x j, S.2.2)
/-- a stretch of a fixed row copied into a cell -/
def cF (S : St) (f : Nat → Int32) (sp a1 dp n : Nat) : St := (fun x j => if x = a1 then va_cpy f (S.1 a1) sp dp n j else S.1 x j, S.2)
def fI (S : St) (a : Nat) (v : Int32) : St := (fun x j => if x = a then v else S.1 x j, S.2)
/-- kinds: (0, class), (1, n) ints, (2, n) longs, (3, n) bytes, (4, n) booleans, (5, n) images, (6, n) sheets -/
def kd (id : Nat) : Nat × Nat :=
  [(0, 10), (0, 1), (0, 6), (1, 48), (1, 64), (1, 56), (0, 5), (1, 64), (0, 3), (2, 8), (5, 2), (0, 8), (0, 5), (1, 64), (3, 120), (6, 4),
   (0, 7), (1, 40), (0, 7), (1, 40), (0, 7), (1, 40), (0, 7), (1, 40), (0, 0), (1, 8), (1, 8), (1, 64), (1, 8), (1, 8), (0, 2), (1, 8), (0, 9), (1, 8), (1, 8), (0, 4),
   (1, 6), (1, 6), (1, 6), (1, 6), (1, 6), (1, 36),
   (0, 1), (0, 6), (1, 48), (1, 64), (1, 56), (0, 5), (1, 64), (0, 3), (2, 8), (0, 1), (0, 6), (1, 48), (1, 64), (1, 56), (0, 5), (1, 64), (0, 3), (2, 8),
   (0, 11), (1, 648), (2, 8), (1, 328), (1, 8), (1, 120), (1, 64), (1, 8), (1, 8), (1, 6), (1, 4), (1, 6), (1, 10), (1, 36), (1, 1296), (2, 16), (4, 2), (1, 4), (1, 4), (1, 160), (1, 40)].getD id (9, 0)
def kk_ (id : Nat) : Nat := (kd id).1
def kl (id : Nat) : Nat := (kd id).2
/-- cells that are there from the start on -/
def sid : List Nat := List.range' 0 42 ++ List.range' 60 21
def ids (S : St) : List Nat := sid ++ ((if rR S 10 0 = 0 then [] else List.range' 42 9) ++ (if rR S 10 1 = 0 then [] else List.range' 51 9))
/-- the kind of a field: 0 an int, 1 a final reference, 2 one that moves -/
def fk (ci k : Nat) : Nat := (([[2, 2, 1, 1, 1], [1, 1, 1, 0], [1], [0, 1], [0, 1, 1, 1, 1, 1, 1], [0, 1], [0, 0, 0, 1, 1, 1], [0, 0, 1], [0, 1, 1, 0], [2, 2], [1, 1, 1, 1, 1, 1, 1, 1], [1, 1, 1, 1, 1, 0, 0, 1, 1, 1, 1, 1, 1, 1, 1, 1, 1, 1, 1, 1, 1, 1]] : List (List Nat)).getD ci []).getD k 9
def nfl (ci : Nat) : Nat := ([5, 4, 1, 2, 7, 2, 6, 3, 4, 2, 8, 22] : List Nat).getD ci 0
/-- where a final reference leads: so many cells on -/
def off (ci k : Nat) : Nat := (([[0, 0, 3, 4, 5], [1, 5, 7, 0], [1], [0, 1], [0, 1, 2, 3, 4, 5, 6], [0, 1], [0, 0, 0, 1, 2, 3], [0, 0, 1], [0, 1, 3, 0], [0, 0], [1, 10, 11, 15, 24, 30, 32, 35], [1, 2, 3, 4, 5, 0, 0, 6, 7, 8, 9, 10, 11, 12, 13, 14, 15, 16, 17, 18, 19, 20]] : List (List Nat)).getD ci []).getD k 0
abbrev cl : List vw_C := [(RX0, TX0, 5), (RX1, TX1, 4), (RX2, TX2, 1), (RX3, TX3, 2), (RX4, TX4, 7), (RX5, TX5, 2), (RX6, TX6, 6), (RX7, TX7, 3), (RX8, TX8, 4), (RX9, TX9, 2), (RX10, TX10, 8), (RX11, TX11, 22)]
/-- classes and slots, classes of arrays by kind, addresses, where the world begins, the two tables -/
abbrev En : Type := va_G × (Nat → ClassId) × (Nat → Nat) × Nat × Nat × Nat
abbrev En.ad (E : En) : Nat → Nat := E.2.2.1
abbrev En.ar (E : En) : Nat → ClassId := E.2.1
abbrev Ab (E : En) : Nat → Prop := fun q => E.2.2.2.1 ≤ q
def fv (E : En) (S : St) (id ci k : Nat) : Value := if fk ci k = 0 then .int (rI S id k) else if fk ci k = 1 then .ref (E.ad (id + off ci k)) else .ref (E.ad (rR S id k))
def cellOf (E : En) (S : St) (id : Nat) : va_E :=
  if kk_ id = 0 then .inr (kl id, (List.range (nfl (kl id))).map (fv E S id (kl id)))
  else if kk_ id = 2 then .inl (E.ar 2, kl id, .inr (.inl (rJ S id)))
  else if kk_ id = 5 then .inl (E.ar 5, kl id, .inr (.inr (.inr (.inr (fun k => if rR S id k = 0 then none else some (E.ad (rR S id k)))))))
  else if kk_ id = 6 then .inl (E.ar 6, kl id, .inr (.inr (.inr (.inr (fun k => some (E.ad (16 + 2 * k)))))))
  else .inl (E.ar (kk_ id), kl id, .inl (rI S id))
def wsOf (E : En) (S : St) : va_W := (ids S).map (fun id => (E.ad id, cellOf E S id))
def tys (E : En) : List (ClassId × FieldType) := [(E.ar 0, .int), (E.ar 1, .int), (E.ar 2, .long), (E.ar 3, .byte), (E.ar 4, .boolean), (E.ar 5, .object RX1), (E.ar 6, .object RX7)]
def FIRSTV (k : Nat) : Int32 := ([0, 10, 50, 0, 0, 0] : List Int32).getD k 0
def MOSTV (k : Nat) : Int32 := ([5, 99, 100, 999, 400, 63] : List Int32).getD k 0
/-- the two tables of the class -/
def Tb (E : En) (U : State) (H : Heap) : Prop :=
  (va_Z RX10 "FIRST_VALUES" "[I" (.ref E.2.2.2.2.1) (Ab E) U H ∧ va_X E.2.2.2.2.1 6 FIRSTV U H ∧ E.2.2.2.2.1 < E.2.2.2.1) ∧
  (va_Z RX10 "MOST_VALUES" "[I" (.ref E.2.2.2.2.2) (Ab E) U H ∧ va_X E.2.2.2.2.2 6 MOSTV U H ∧ E.2.2.2.2.2 < E.2.2.2.1)
/-- the words on private members across a nest -/
def isNest : Cond → Bool
  | .fieldLinkNest .. => true
  | .methodLinkNest .. => true
  | _ => false
def nestW : List Cond := lw_tbl.filter isNest
def Nn (U : State) : Prop := ∀ w ∈ nestW, va_Nw w U
theorem Nn_warm {s U : State} (hW : s.WarmedH U.vm) (h : Nn s) : Nn U := by
  intro w hw
  have h1 := h w hw
  have h2 := (List.mem_filter.mp hw).2
  cases w with
  | fieldLinkNest a i b n d h => exact va_Nw.warmF hW h1
  | methodLinkNest a i x h => exact va_Nw.warmM hW h1
  | _ => cases h2
theorem Nn_vm {s U : State} (hvm : s.vm = U.vm) (h : Nn s) : Nn U := by
  intro w hw
  have h1 := h w hw
  have h2 := (List.mem_filter.mp hw).2
  cases w with
  | fieldLinkNest a i b n d h => exact va_tabs rfl hvm h1
  | methodLinkNest a i x h => exact va_tabs rfl hvm h1
  | _ => cases h2
theorem nest_in {w : Cond} (h : (decide (w ∈ lw_tbl) && isNest w) = true) : w ∈ nestW := by
  simp only [Bool.and_eq_true, decide_eq_true_eq] at h
  exact List.mem_filter.mpr h
/-- the whole world at a state -/
def Pw (E : En) (S : St) (U : State) : Prop := va_P E.1 cl (wsOf E S) U.heap ∧ va_D (Ab E) (wsOf E S) ∧ va_K E.1 cl (tys E) U ∧ Tb E U U.heap ∧ Nn U
/-- the same in the midst of a method -/
def Ww (E : En) (S : St) (s : State) (H : Heap) (locs : List Loc) : Prop := va_P E.1 cl (wsOf E S) H ∧ va_D (Ab E) (wsOf E S) ∧ va_S (Ab E) s.heap H locs
/-- what does not change within a method -/
def Cx (E : En) (p : Program) (s : State) (m : MethodId) (args : Array Value) (c : Code) (cc : ByteArray) (nL : Nat) (own : String) (U : List Cond) : Prop :=
  CallFix p m c cc nL s args U own ∧ va_K E.1 cl (tys E) s ∧ Tb E s s.heap ∧ Nn s
/-! the words that all methods share -/
def UU : List Cond := lw_tbl.filter goodWord
theorem UU_good : ∀ w ∈ UU, (w.onTables && w.keeps) = true ∨ ∃ ty, w = .arrayClass ty := fun w h => good_of_word (List.mem_filter.mp h).2
theorem UU_in : ∀ w ∈ UU, w ∈ lw_tbl := fun w h => (List.mem_filter.mp h).1
theorem inUU {w : Cond} (h : (decide (w ∈ lw_tbl) && goodWord w) = true) : w ∈ UU := by
  simp only [Bool.and_eq_true, decide_eq_true_eq] at h
  exact List.mem_filter.mpr h
theorem gUV {big : List Cond} {own C : String} {idx n : Nat} {y : MethodName} {cc : ByteArray} {ret : Option FieldType} (hb : ∀ w ∈ UU, w ∈ big) (h1 : Cond.methodLink own idx y ∈ UU) (h2 : Cond.instanceMethod y ∈ UU) (h3 : Cond.selects C y y ∈ UU) (h4 : Cond.initialized C ∈ UU) (h5 : Cond.code y cc n ret ∈ UU) : GoodIn big (wsV own idx C y (Cond.code y cc n ret :: UU)) := by
  intro w hw
  have key : w ∈ UU := by
    simp only [wsV, List.mem_append, List.mem_cons, List.not_mem_nil, or_false] at hw
    rcases hw with (rfl | rfl | rfl | rfl) | rfl | h
    · exact h1
    · exact h2
    · exact h3
    · exact h4
    · exact h5
    · exact h
  exact ⟨hb w key, UU_good w key⟩
theorem gUS {big : List Cond} {own : String} {idx n : Nat} {y : MethodName} {cc : ByteArray} {ret : Option FieldType} (hb : ∀ w ∈ UU, w ∈ big) (h1 : Cond.methodLink own idx y ∈ UU) (h2 : Cond.static y ∈ UU) (h4 : Cond.initialized y.cls ∈ UU) (h5 : Cond.code y cc n ret ∈ UU) : GoodIn big (va_wsS own idx y (Cond.code y cc n ret :: UU)) := by
  intro w hw
  have key : w ∈ UU := by
    simp only [va_wsS, List.mem_append, List.mem_cons, List.not_mem_nil, or_false] at hw
    rcases hw with (rfl | rfl | rfl) | rfl | h
    · exact h1
    · exact h2
    · exact h4
    · exact h5
    · exact h
  exact ⟨hb w key, UU_good w key⟩
set_option maxRecDepth 100000 in
theorem clU : ∀ (ci : Nat) (q : vw_C), cl[ci]? = some q → ∀ w ∈ u_ws q.1 q.2.1 q.2.2, w ∈ UU := by
  have key : cl.all (fun q => (u_ws q.1 q.2.1 q.2.2).all (fun w => decide (w ∈ lw_tbl) && goodWord w)) = true := by decide +kernel
  intro ci q hq w hw
  have h1 := List.all_eq_true.mp key q (List.mem_of_getElem? hq)
  exact inUU (List.all_eq_true.mp h1 w hw)
theorem cl_nfl {ci : Nat} {q : vw_C} (h : cl[ci]? = some q) : q.2.2 = nfl ci := by
  have key : ∀ i, i < 12 → (cl[i]?.map fun q => q.2.2) = some (nfl i) := by decide
  have hl : ci < 12 := (List.getElem?_eq_some_iff.mp h).1
  have := key ci hl
  rw [h] at this
  exact Option.some.inj this
def tyOf (d : String) : FieldType := (parseFieldDescriptor d).getD .int
theorem cl_ty : ∀ (ci : Nat) (q : vw_C), cl[ci]? = some q → ∀ k, k < q.2.2 → parseFieldDescriptor (q.2.1 k).2.2.1 = some (tyOf (q.2.1 k).2.2.1) := by
  have key : cl.all (fun q => (List.range q.2.2).all (fun k => (parseFieldDescriptor (q.2.1 k).2.2.1).isSome)) = true := by decide +kernel
  intro ci q hq k hk
  have h1 := List.all_eq_true.mp (List.all_eq_true.mp key q (List.mem_of_getElem? hq)) k (List.mem_range.mpr hk)
  obtain ⟨t, ht⟩ := Option.isSome_iff_exists.mp h1
  rw [tyOf, ht]
  rfl
theorem cl_nm : ∀ (ci : Nat) (q : vw_C), cl[ci]? = some q → ∀ a, a < q.2.2 → ∀ b, b < q.2.2 → a ≠ b → (q.2.1 a).2.1 ≠ (q.2.1 b).2.1 := by
  have key : cl.all (fun q => (List.range q.2.2).all (fun a => (List.range q.2.2).all (fun b => decide (a = b) || decide ((q.2.1 a).2.1 ≠ (q.2.1 b).2.1)))) = true := by decide +kernel
  intro ci q hq a ha b hb hne
  have h1 := List.all_eq_true.mp (List.all_eq_true.mp (List.all_eq_true.mp key q (List.mem_of_getElem? hq)) a (List.mem_range.mpr ha)) b (List.mem_range.mpr hb)
  simp only [Bool.or_eq_true, decide_eq_true_eq] at h1
  exact h1.resolve_left hne
end
section
/-! what the world's memories answer, and the rows of the instructions that touch it -/
def inB (i : Int32) (n : Nat) : Bool := !decide (i < 0) && decide (i.toNatClampNeg < n)
theorem inB_in {i : Int32} {n : Nat} (h : inB i n = true) : vp_in i n := by
  simp only [inB, Bool.and_eq_true, Bool.not_eq_true', decide_eq_false_iff_not, decide_eq_true_eq] at h
  exact fun q => q.elim h.1 (fun z => absurd h.2 (Nat.not_lt.mpr z))
def okA (S : St) (kn id : Nat) (i : Int32) : Prop := kk_ id = kn ∧ id ∈ ids S ∧ inB i (kl id) = true
def ldA (S : St) (id : Nat) (i : Int32) : Option Int32 := if kk_ id = 1 ∧ id ∈ ids S ∧ inB i (kl id) = true then some (rI S id i.toNatClampNeg) else none
def stA (S : St) (id : Nat) (i v : Int32) : Option St := if kk_ id = 1 ∧ id ∈ ids S ∧ inB i (kl id) = true then some (wI S id i.toNatClampNeg v) else none
def ldB (S : St) (id : Nat) (i : Int32) : Option Int32 := if kk_ id = 3 ∧ id ∈ ids S ∧ inB i (kl id) = true then some (rI S id i.toNatClampNeg) else none
def stB (S : St) (id : Nat) (i v : Int32) : Option St := if kk_ id = 3 ∧ id ∈ ids S ∧ inB i (kl id) = true then some (wI S id i.toNatClampNeg (vp_nar .byte v)) else none
def ldZ (S : St) (id : Nat) (i : Int32) : Option Int32 := if kk_ id = 4 ∧ id ∈ ids S ∧ inB i (kl id) = true then some (rI S id i.toNatClampNeg) else none
def stZ (S : St) (id : Nat) (i v : Int32) : Option St := if kk_ id = 4 ∧ id ∈ ids S ∧ inB i (kl id) = true then some (wI S id i.toNatClampNeg (vp_nar .boolean v)) else none
def ldL (S : St) (id : Nat) (i : Int32) : Option Int64 := if kk_ id = 2 ∧ id ∈ ids S ∧ inB i (kl id) = true then some (rJ S id i.toNatClampNeg) else none
def stL (S : St) (id : Nat) (i : Int32) (v : Int64) : Option St := if kk_ id = 2 ∧ id ∈ ids S ∧ inB i (kl id) = true then some (wJ S id i.toNatClampNeg v) else none
def ldS (i : Int32) : Option Nat := if inB i 4 = true then some (16 + 2 * i.toNatClampNeg) else none
def ldT (f : Nat → Int32) (i : Int32) : Option Int32 := if inB i 6 = true then some (f i.toNatClampNeg) else none
def stF (S : St) (id k : Nat) (v : Int32) : Option St := some (wI S id k v)
def stR (S : St) (id k v : Nat) : Option St := some (wR S id k v)
/-- is the cell an object of that class -/
def ckO (S : St) (id ci : Nat) : Option Unit := if kk_ id = 0 ∧ kl id = ci ∧ id ∈ ids S then some () else none
def dvO (x y : Int32) : Option Int32 := if y = 0 then none else some (x / y)
def rmO (x y : Int32) : Option Int32 := if y = 0 then none else some (x - x / y * y)
def alO (S : St) (id : Nat) : Option Int32 := if kk_ id = 1 ∧ id ∈ ids S then some (Int32.ofNat (kl id)) else none
def alL (S : St) (id : Nat) : Option Int32 := if kk_ id = 2 ∧ id ∈ ids S then some (Int32.ofNat (kl id)) else none
def cpI (S : St) (a0 : Nat) (sp : Int32) (a1 : Nat) (dp n : Int32) : Option St := if (kk_ a0 = 1 ∧ a0 ∈ ids S) ∧ (kk_ a1 = 1 ∧ a1 ∈ ids S) ∧ (¬ sp < 0 ∧ ¬ dp < 0 ∧ ¬ n < 0) ∧ sp.toNatClampNeg + n.toNatClampNeg ≤ kl a0 ∧ dp.toNatClampNeg + n.toNatClampNeg ≤ kl a1 then some (cI S a0 sp.toNatClampNeg a1 dp.toNatClampNeg n.toNatClampNeg) else none
def cpJ (S : St) (a0 : Nat) (sp : Int32) (a1 : Nat) (dp n : Int32) : Option St := if (kk_ a0 = 2 ∧ a0 ∈ ids S) ∧ (kk_ a1 = 2 ∧ a1 ∈ ids S) ∧ (¬ sp < 0 ∧ ¬ dp < 0 ∧ ¬ n < 0) ∧ sp.toNatClampNeg + n.toNatClampNeg ≤ kl a0 ∧ dp.toNatClampNeg + n.toNatClampNeg ≤ kl a1 then some (cJ S a0 sp.toNatClampNeg a1 dp.toNatClampNeg n.toNatClampNeg) else none
def cpF (S : St) (f : Nat → Int32) (sp : Int32) (a1 : Nat) (dp n : Int32) : Option St := if (kk_ a1 = 1 ∧ a1 ∈ ids S) ∧ (¬ sp < 0 ∧ ¬ dp < 0 ∧ ¬ n < 0) ∧ sp.toNatClampNeg + n.toNatClampNeg ≤ 6 ∧ dp.toNatClampNeg + n.toNatClampNeg ≤ kl a1 then some (cF S f sp.toNatClampNeg a1 dp.toNatClampNeg n.toNatClampNeg) else none
theorem if_so {α : Type} {c : Prop} [Decidable c] {x y : α} (h : (if c then some x else none) = some y) : c ∧ x = y := by
  by_cases hc : c
  · rw [if_pos hc] at h
    exact ⟨hc, Option.some.inj h⟩
  · rw [if_neg hc] at h
    cases h
theorem bd_so {α β : Type} {x : Option α} {f : α → Option β} {y : β} (h : x.bind f = some y) : ∃ a, x = some a ∧ f a = some y := by
  cases x with
  | none => cases h
  | some a => exact ⟨a, rfl, h⟩
/-! places in the world -/
theorem ids_nodup (S : St) : (ids S).Nodup := by
  unfold ids
  split <;> split <;> decide
theorem ws_at (E : En) {S : St} {id : Nat} (h : id ∈ ids S) : ∃ j : Nat, (wsOf E S)[j]? = some (E.ad id, cellOf E S id) ∧ (ids S)[j]? = some id := by
  obtain ⟨j, hj⟩ := List.getElem?_of_mem h
  exact ⟨j, by rw [wsOf, List.getElem?_map, hj]; rfl, hj⟩
theorem ws_set (E : En) {S S' : St} {id j : Nat} (hj : (ids S)[j]? = some id) (hi : ids S' = ids S) (ho : ∀ x, x ≠ id → cellOf E S' x = cellOf E S x) : (wsOf E S).set j (E.ad id, cellOf E S' id) = wsOf E S' := by
  apply List.ext_getElem?
  intro k
  unfold wsOf
  rw [hi, List.getElem?_set, List.getElem?_map, List.getElem?_map, List.length_map]
  have hl : j < (ids S).length := (List.getElem?_eq_some_iff.mp hj).1
  by_cases hk : j = k
  · subst hk
    rw [if_pos rfl, if_pos hl, hj]
    rfl
  · rw [if_neg hk]
    cases h : (ids S)[k]? with
    | none => rfl
    | some x =>
      have hx : x ≠ id := by
        intro e
        subst e
        exact hk ((List.getElem?_inj hl (ids_nodup S)).mp (hj.trans h.symm))
      simp only [Option.map_some]
      rw [ho x hx]
theorem cell_congr (E : En) {S S' : St} {x : Nat} (h1 : ∀ j, rI S' x j = rI S x j) (h2 : ∀ j, rJ S' x j = rJ S x j) (h3 : ∀ j, rR S' x j = rR S x j) : cellOf E S' x = cellOf E S x := by
  have e1 : rI S' x = rI S x := funext h1
  have e2 : rJ S' x = rJ S x := funext h2
  have e3 : rR S' x = rR S x := funext h3
  have e4 : ∀ ci k, fv E S' x ci k = fv E S x ci k := fun ci k => by unfold fv; rw [h1, h3]
  have e5 : fv E S' x (kl x) = fv E S x (kl x) := funext (e4 (kl x))
  unfold cellOf
  rw [e1, e2, e3, e5]
theorem ids_wI (S : St) (a k : Nat) (v : Int32) : ids (wI S a k v) = ids S := rfl
theorem ids_wJ (S : St) (a k : Nat) (v : Int64) : ids (wJ S a k v) = ids S := rfl
theorem ids_cI (S : St) (a0 sp a1 dp n : Nat) : ids (cI S a0 sp a1 dp n) = ids S := rfl
theorem ids_cJ (S : St) (a0 sp a1 dp n : Nat) : ids (cJ S a0 sp a1 dp n) = ids S := rfl
theorem ids_cF (S : St) (f : Nat → Int32) (sp a1 dp n : Nat) : ids (cF S f sp a1 dp n) = ids S := rfl
theorem ids_wR (S : St) (a k v : Nat) (h : a ≠ 10) : ids (wR S a k v) = ids S := by
  have e : ∀ j, rR (wR S a k v) 10 j = rR S 10 j := fun j => by simp [rR, wR, Ne.symm h]
  unfold ids
  rw [e, e]
theorem cell_arr (E : En) (S : St) {id kn : Nat} (h : kk_ id = kn) (h0 : kn ≠ 0) (h2 : kn ≠ 2) (h5 : kn ≠ 5) (h6 : kn ≠ 6) : cellOf E S id = .inl (E.ar kn, kl id, .inl (rI S id)) := by
  unfold cellOf
  rw [h, if_neg h0, if_neg h2, if_neg h5, if_neg h6]
theorem cell_lon (E : En) (S : St) {id : Nat} (h : kk_ id = 2) : cellOf E S id = .inl (E.ar 2, kl id, .inr (.inl (rJ S id))) := by
  unfold cellOf
  rw [h]
  rfl
theorem cell_obj (E : En) (S : St) {id ci : Nat} (h : kk_ id = 0) (h2 : kl id = ci) : cellOf E S id = .inr (ci, (List.range (nfl ci)).map (fv E S id ci)) := by
  unfold cellOf
  rw [h, h2]
  rfl
theorem upd_wI (S : St) (id k : Nat) (v : Int32) : upd (rI S id) k v = rI (wI S id k v) id := by
  funext j
  simp [upd, rI, wI]
theorem upd_wJ (S : St) (id k : Nat) (v : Int64) : vp_updL (rJ S id) k v = rJ (wJ S id k v) id := by
  funext j
  simp [vp_updL, rJ, wJ]
section ROWS
variable {p : Program} {l : Launch} {e : Env} {R : Room} {s : State} {m : MethodId} {args : Array Value} {below : List Frame} {meth : Method} {c : Code} {H : Heap} {locs : List Loc} {cells slots : Nat} {Q : State → Prop}
variable {cc : ByteArray} {nL pc : Nat} {ls : Array Slot} {rest : List Value} {E : En} {S S1 : St} {own : String} {Us : List Cond} {id : Nat} {i x v : Int32}
theorem g_get {ci k index : Nat} {q : vw_C} {val : Value} (C : Cx E p s m args c cc nL own Us) (hUs : ∀ w ∈ UU, w ∈ Us) (hW : Ww E S s H locs) (hc : cl[ci]? = some q) (hk0 : kk_ id = 0) (hk1 : kl id = ci) (hid : id ∈ ids S) (hk : k < nfl ci) (hlink : Cond.fieldLink own index (q.2.1 k).1 (q.2.1 k).2.1 (q.2.1 k).2.2.1 ∈ UU) (hv : fv E S id ci k = val) (hdg : decode cc pc = .ok (.getfield index, 3))
    (kk : W p l e R s m args below meth c H locs cells slots Q (F0 m (pc + 3) ls (val :: rest))) : W p l e R s m args below meth c H locs cells slots Q (F0 m pc ls (.ref (E.ad id) :: rest)) := by
  obtain ⟨⟨hx, hb, hml, hown, hts⟩, hK, -⟩ := C
  obtain ⟨j, hj, -⟩ := ws_at E hid
  rw [cell_obj E S hk0 hk1] at hj
  have hN := cl_nfl hc
  obtain ⟨C0, T0, N0⟩ := q
  have hN : N0 = nfl ci := hN
  subst hN
  refine va_get hx hb (fun w h => hts w (hUs w h)) (clU ci _ hc) hown hK hW.1 j hj hc k hk (hts _ (hUs _ hlink)) (fun _ h => h) ?_ hdg kk
  rw [List.getElem?_map, List.getElem?_range hk]
  exact congrArg some hv
theorem g_putW {ci k index : Nat} {q : vw_C} {val : Value} (C : Cx E p s m args c cc nL own Us) (hUs : ∀ w ∈ UU, w ∈ Us) (hW : Ww E S s H locs) (hc : cl[ci]? = some q) (hk0 : kk_ id = 0) (hk1 : kl id = ci) (hid : id ∈ ids S) (hk : k < nfl ci) (hlink : Cond.fieldLink own index (q.2.1 k).1 (q.2.1 k).2.1 (q.2.1 k).2.2.1 ∈ UU) (hfin : (q.2.1 k).2.2.2 = false)
    (hn : narrow (tyOf (q.2.1 k).2.2.1) val = val) (hfit : fits (tyOf (q.2.1 k).2.2.1) val = true) (hi : ids S1 = ids S) (ho : ∀ y, y ≠ id → cellOf E S1 y = cellOf E S y) (hs : ∀ j, fv E S1 id ci j = if j = k then val else fv E S id ci j) (hdg : decode cc pc = .ok (.putfield index, 3))
    (kk : ∀ (H1 : Heap) (locs1 : List Loc), Ww E S1 s H1 locs1 → W p l e R s m args below meth c H1 locs1 cells slots Q (F0 m (pc + 3) ls rest)) : W p l e R s m args below meth c H locs cells slots Q (F0 m pc ls (val :: .ref (E.ad id) :: rest)) := by
  obtain ⟨⟨hx, hb, hml, hown, hts⟩, hK, -⟩ := C
  obtain ⟨j, hj, hj2⟩ := ws_at E hid
  rw [cell_obj E S hk0 hk1] at hj
  have hN := cl_nfl hc
  have hty := cl_ty ci q hc
  have hnm := cl_nm ci q hc
  obtain ⟨C0, T0, N0⟩ := q
  have hN : N0 = nfl ci := hN
  subst hN
  have e0 : ((List.range (nfl ci)).map (fv E S id ci)).set k val = (List.range (nfl ci)).map (fv E S1 id ci) := by
    apply List.ext_getElem?
    intro y
    rw [List.getElem?_set, List.getElem?_map, List.getElem?_map, List.length_map, List.length_range]
    by_cases hy : k = y
    · subst hy
      rw [if_pos rfl, if_pos hk, List.getElem?_range hk]
      show some val = some _
      rw [hs, if_pos rfl]
    · rw [if_neg hy]
      by_cases hy2 : y < nfl ci
      · rw [List.getElem?_range hy2]
        show some _ = some _
        rw [hs, if_neg (Ne.symm hy)]
      · rw [List.getElem?_eq_none (by rw [List.length_range]; omega)]
        rfl
  refine va_put hx hb (fun w h => hts w (hUs w h)) (clU ci _ hc) (fun k => tyOf (T0 k).2.2.1) hty hnm hown hK hW.1 hW.2.1 hW.2.2 j hj hc k hk (hts _ (hUs _ hlink)) (fun _ h => h) hfin (hty k hk) hn hfit (by rw [List.length_map, List.length_range]; exact hk) hdg (fun H1 locs1 p1 d1 s1 => kk H1 locs1 ?_)
  rw [e0, ← cell_obj E S1 hk0 hk1, ws_set E hj2 hi ho] at p1 d1
  exact ⟨p1, d1, s1⟩
theorem wI_cell (E : En) (S : St) (id k : Nat) (v : Int32) : ∀ y, y ≠ id → cellOf E (wI S id k v) y = cellOf E S y := fun y hy => cell_congr E (fun j => by simp [rI, wI, hy]) (fun _ => rfl) (fun _ => rfl)
theorem wJ_cell (E : En) (S : St) (id k : Nat) (v : Int64) : ∀ y, y ≠ id → cellOf E (wJ S id k v) y = cellOf E S y := fun y hy => cell_congr E (fun _ => rfl) (fun j => by simp [rJ, wJ, hy]) (fun _ => rfl)
theorem wR_cell (E : En) (S : St) (id k v : Nat) : ∀ y, y ≠ id → cellOf E (wR S id k v) y = cellOf E S y := fun y hy => cell_congr E (fun _ => rfl) (fun _ => rfl) (fun j => by simp [rR, wR, hy])
theorem g_putI {ci k index : Nat} {q : vw_C} (C : Cx E p s m args c cc nL own Us) (hUs : ∀ w ∈ UU, w ∈ Us) (hW : Ww E S s H locs) (hc : cl[ci]? = some q) (hk0 : kk_ id = 0) (hk1 : kl id = ci) (hid : id ∈ ids S) (hk : k < nfl ci) (hlink : Cond.fieldLink own index (q.2.1 k).1 (q.2.1 k).2.1 (q.2.1 k).2.2.1 ∈ UU) (hfin : (q.2.1 k).2.2.2 = false) (hty : tyOf (q.2.1 k).2.2.1 = .int) (hfk : fk ci k = 0) (h : stF S id k v = some S1) (hdg : decode cc pc = .ok (.putfield index, 3))
    (kk : ∀ (H1 : Heap) (locs1 : List Loc), Ww E S1 s H1 locs1 → W p l e R s m args below meth c H1 locs1 cells slots Q (F0 m (pc + 3) ls rest)) : W p l e R s m args below meth c H locs cells slots Q (F0 m pc ls (.int v :: .ref (E.ad id) :: rest)) := by
  cases h
  refine g_putW (S1 := wI S id k v) C hUs hW hc hk0 hk1 hid hk hlink hfin (by rw [hty]; rfl) (by rw [hty]; rfl) rfl (wI_cell E S id k v) (fun j => ?_) hdg kk
  by_cases hj : j = k
  · subst hj
    simp [fv, hfk, rI, wI]
  · simp [fv, rI, wI, hj, rR]
theorem g_putR {ci k index v : Nat} {q : vw_C} (C : Cx E p s m args c cc nL own Us) (hUs : ∀ w ∈ UU, w ∈ Us) (hW : Ww E S s H locs) (hc : cl[ci]? = some q) (hk0 : kk_ id = 0) (hk1 : kl id = ci) (hid : id ∈ ids S) (hk : k < nfl ci) (hlink : Cond.fieldLink own index (q.2.1 k).1 (q.2.1 k).2.1 (q.2.1 k).2.2.1 ∈ UU) (hfin : (q.2.1 k).2.2.2 = false) (hty : tyOf (q.2.1 k).2.2.1 = .array .int) (hfk : fk ci k = 2) (hne : id ≠ 10) (h : stR S id k v = some S1) (hdg : decode cc pc = .ok (.putfield index, 3))
    (kk : ∀ (H1 : Heap) (locs1 : List Loc), Ww E S1 s H1 locs1 → W p l e R s m args below meth c H1 locs1 cells slots Q (F0 m (pc + 3) ls rest)) : W p l e R s m args below meth c H locs cells slots Q (F0 m pc ls (.ref (E.ad v) :: .ref (E.ad id) :: rest)) := by
  cases h
  refine g_putW (S1 := wR S id k v) C hUs hW hc hk0 hk1 hid hk hlink hfin (by rw [hty]; rfl) (by rw [hty]; rfl) (ids_wR S id k v hne) (wR_cell E S id k v) (fun j => ?_) hdg kk
  by_cases hj : j = k
  · subst hj
    simp [fv, hfk, rR, wR]
  · simp [fv, rI, rR, wR, hj]
theorem g_iald (C : Cx E p s m args c cc nL own Us) (hW : Ww E S s H locs) (h : ldA S id i = some x) (hdg : decode cc pc = .ok (.iaload, 1))
    (kk : W p l e R s m args below meth c H locs cells slots Q (F0 m (pc + 1) ls (.int x :: rest))) : W p l e R s m args below meth c H locs cells slots Q (F0 m pc ls (.int i :: .ref (E.ad id) :: rest)) := by
  obtain ⟨⟨h1, h2, h3⟩, rfl⟩ := if_so h
  obtain ⟨j, hj, -⟩ := ws_at E h2
  rw [cell_arr E S h1 (by decide) (by decide) (by decide) (by decide)] at hj
  exact va_iald C.1.1 C.1.2.1 C.2.1 hW.1 j 1 hj rfl (inB_in h3) hdg kk
theorem g_bald (C : Cx E p s m args c cc nL own Us) (hW : Ww E S s H locs) (h : ldB S id i = some x) (hdg : decode cc pc = .ok (.baload, 1))
    (kk : W p l e R s m args below meth c H locs cells slots Q (F0 m (pc + 1) ls (.int x :: rest))) : W p l e R s m args below meth c H locs cells slots Q (F0 m pc ls (.int i :: .ref (E.ad id) :: rest)) := by
  obtain ⟨⟨h1, h2, h3⟩, rfl⟩ := if_so h
  obtain ⟨j, hj, -⟩ := ws_at E h2
  rw [cell_arr E S h1 (by decide) (by decide) (by decide) (by decide)] at hj
  exact va_bald C.1.1 C.1.2.1 C.2.1 hW.1 j 3 hj rfl (inB_in h3) hdg kk
theorem g_zald (C : Cx E p s m args c cc nL own Us) (hW : Ww E S s H locs) (h : ldZ S id i = some x) (hdg : decode cc pc = .ok (.baload, 1))
    (kk : W p l e R s m args below meth c H locs cells slots Q (F0 m (pc + 1) ls (.int x :: rest))) : W p l e R s m args below meth c H locs cells slots Q (F0 m pc ls (.int i :: .ref (E.ad id) :: rest)) := by
  obtain ⟨⟨h1, h2, h3⟩, rfl⟩ := if_so h
  obtain ⟨j, hj, -⟩ := ws_at E h2
  rw [cell_arr E S h1 (by decide) (by decide) (by decide) (by decide)] at hj
  exact va_zald C.1.1 C.1.2.1 C.2.1 hW.1 j 4 hj rfl (inB_in h3) hdg kk
theorem g_lald {x : Int64} (C : Cx E p s m args c cc nL own Us) (hW : Ww E S s H locs) (h : ldL S id i = some x) (hdg : decode cc pc = .ok (.laload, 1))
    (kk : W p l e R s m args below meth c H locs cells slots Q (F0 m (pc + 1) ls (.long x :: rest))) : W p l e R s m args below meth c H locs cells slots Q (F0 m pc ls (.int i :: .ref (E.ad id) :: rest)) := by
  obtain ⟨⟨h1, h2, h3⟩, rfl⟩ := if_so h
  obtain ⟨j, hj, -⟩ := ws_at E h2
  rw [cell_lon E S h1] at hj
  exact va_lald C.1.1 C.1.2.1 C.2.1 hW.1 j 2 hj rfl (inB_in h3) hdg kk
theorem g_iast (C : Cx E p s m args c cc nL own Us) (hW : Ww E S s H locs) (h : stA S id i x = some S1) (hdg : decode cc pc = .ok (.iastore, 1))
    (kk : ∀ (H1 : Heap) (locs1 : List Loc), Ww E S1 s H1 locs1 → W p l e R s m args below meth c H1 locs1 cells slots Q (F0 m (pc + 1) ls rest)) : W p l e R s m args below meth c H locs cells slots Q (F0 m pc ls (.int x :: .int i :: .ref (E.ad id) :: rest)) := by
  obtain ⟨⟨h1, h2, h3⟩, rfl⟩ := if_so h
  obtain ⟨j, hj, hj2⟩ := ws_at E h2
  rw [cell_arr E S h1 (by decide) (by decide) (by decide) (by decide)] at hj
  refine va_iast C.1.1 C.1.2.1 C.2.1 hW.1 hW.2.1 hW.2.2 j 1 hj rfl (inB_in h3) hdg (fun H1 locs1 p1 d1 s1 => kk H1 locs1 ?_)
  rw [upd_wI, ← cell_arr E (wI S id i.toNatClampNeg x) h1 (by decide) (by decide) (by decide) (by decide), ws_set E (S' := wI S id i.toNatClampNeg x) hj2 rfl (wI_cell E S id _ x)] at p1 d1
  exact ⟨p1, d1, s1⟩
theorem g_bast (C : Cx E p s m args c cc nL own Us) (hW : Ww E S s H locs) (h : stB S id i x = some S1) (hdg : decode cc pc = .ok (.bastore, 1))
    (kk : ∀ (H1 : Heap) (locs1 : List Loc), Ww E S1 s H1 locs1 → W p l e R s m args below meth c H1 locs1 cells slots Q (F0 m (pc + 1) ls rest)) : W p l e R s m args below meth c H locs cells slots Q (F0 m pc ls (.int x :: .int i :: .ref (E.ad id) :: rest)) := by
  obtain ⟨⟨h1, h2, h3⟩, rfl⟩ := if_so h
  obtain ⟨j, hj, hj2⟩ := ws_at E h2
  rw [cell_arr E S h1 (by decide) (by decide) (by decide) (by decide)] at hj
  refine va_bast C.1.1 C.1.2.1 C.2.1 hW.1 hW.2.1 hW.2.2 j 3 hj rfl (inB_in h3) hdg (fun H1 locs1 p1 d1 s1 => kk H1 locs1 ?_)
  rw [upd_wI, ← cell_arr E (wI S id i.toNatClampNeg (vp_nar .byte x)) h1 (by decide) (by decide) (by decide) (by decide), ws_set E (S' := wI S id i.toNatClampNeg (vp_nar .byte x)) hj2 rfl (wI_cell E S id _ _)] at p1 d1
  exact ⟨p1, d1, s1⟩
theorem g_zast (C : Cx E p s m args c cc nL own Us) (hW : Ww E S s H locs) (h : stZ S id i x = some S1) (hdg : decode cc pc = .ok (.bastore, 1))
    (kk : ∀ (H1 : Heap) (locs1 : List Loc), Ww E S1 s H1 locs1 → W p l e R s m args below meth c H1 locs1 cells slots Q (F0 m (pc + 1) ls rest)) : W p l e R s m args below meth c H locs cells slots Q (F0 m pc ls (.int x :: .int i :: .ref (E.ad id) :: rest)) := by
  obtain ⟨⟨h1, h2, h3⟩, rfl⟩ := if_so h
  obtain ⟨j, hj, hj2⟩ := ws_at E h2
  rw [cell_arr E S h1 (by decide) (by decide) (by decide) (by decide)] at hj
  refine va_zast C.1.1 C.1.2.1 C.2.1 hW.1 hW.2.1 hW.2.2 j 4 hj rfl (inB_in h3) hdg (fun H1 locs1 p1 d1 s1 => kk H1 locs1 ?_)
  rw [upd_wI, ← cell_arr E (wI S id i.toNatClampNeg (vp_nar .boolean x)) h1 (by decide) (by decide) (by decide) (by decide), ws_set E (S' := wI S id i.toNatClampNeg (vp_nar .boolean x)) hj2 rfl (wI_cell E S id _ _)] at p1 d1
  exact ⟨p1, d1, s1⟩
theorem g_last {x : Int64} (C : Cx E p s m args c cc nL own Us) (hW : Ww E S s H locs) (h : stL S id i x = some S1) (hdg : decode cc pc = .ok (.lastore, 1))
    (kk : ∀ (H1 : Heap) (locs1 : List Loc), Ww E S1 s H1 locs1 → W p l e R s m args below meth c H1 locs1 cells slots Q (F0 m (pc + 1) ls rest)) : W p l e R s m args below meth c H locs cells slots Q (F0 m pc ls (.long x :: .int i :: .ref (E.ad id) :: rest)) := by
  obtain ⟨⟨h1, h2, h3⟩, rfl⟩ := if_so h
  obtain ⟨j, hj, hj2⟩ := ws_at E h2
  rw [cell_lon E S h1] at hj
  refine va_last C.1.1 C.1.2.1 C.2.1 hW.1 hW.2.1 hW.2.2 j 2 hj rfl (inB_in h3) hdg (fun H1 locs1 p1 d1 s1 => kk H1 locs1 ?_)
  rw [upd_wJ, ← cell_lon E (wJ S id i.toNatClampNeg x) h1, ws_set E (S' := wJ S id i.toNatClampNeg x) hj2 rfl (wJ_cell E S id _ x)] at p1 d1
  exact ⟨p1, d1, s1⟩
theorem g_alen (C : Cx E p s m args c cc nL own Us) (hW : Ww E S s H locs) (h : alO S id = some x) (hdg : decode cc pc = .ok (.arraylength, 1))
    (kk : W p l e R s m args below meth c H locs cells slots Q (F0 m (pc + 1) ls (.int x :: rest))) : W p l e R s m args below meth c H locs cells slots Q (F0 m pc ls (.ref (E.ad id) :: rest)) := by
  obtain ⟨⟨h1, h2⟩, rfl⟩ := if_so h
  obtain ⟨j, hj, -⟩ := ws_at E h2
  rw [cell_arr E S h1 (by decide) (by decide) (by decide) (by decide)] at hj
  exact va_alen C.1.1 C.1.2.1 C.2.1 hW.1 j 1 hj (ty := .int) rfl rfl hdg kk
theorem g_alenL (C : Cx E p s m args c cc nL own Us) (hW : Ww E S s H locs) (h : alL S id = some x) (hdg : decode cc pc = .ok (.arraylength, 1))
    (kk : W p l e R s m args below meth c H locs cells slots Q (F0 m (pc + 1) ls (.int x :: rest))) : W p l e R s m args below meth c H locs cells slots Q (F0 m pc ls (.ref (E.ad id) :: rest)) := by
  obtain ⟨⟨h1, h2⟩, rfl⟩ := if_so h
  obtain ⟨j, hj, -⟩ := ws_at E h2
  rw [cell_lon E S h1] at hj
  exact va_alen C.1.1 C.1.2.1 C.2.1 hW.1 j 2 hj (ty := .long) rfl rfl hdg kk
theorem in_sid {id : Nat} (S : St) (h : decide (id ∈ sid) = true) : id ∈ ids S := List.mem_append_left _ (of_decide_eq_true h)
theorem g_sht {y : Nat} (C : Cx E p s m args c cc nL own Us) (hW : Ww E S s H locs) (h : ldS i = some y) (hdg : decode cc pc = .ok (.aaload, 1))
    (kk : W p l e R s m args below meth c H locs cells slots Q (F0 m (pc + 1) ls (.ref (E.ad y) :: rest))) : W p l e R s m args below meth c H locs cells slots Q (F0 m pc ls (.int i :: .ref (E.ad 15) :: rest)) := by
  obtain ⟨h3, rfl⟩ := if_so h
  obtain ⟨j, hj, -⟩ := ws_at E (in_sid (id := 15) S rfl)
  exact va_aldq C.1.1 C.1.2.1 C.2.1 hW.1 j 6 (n := 4) (C := RX7) (f := fun k => some (E.ad (16 + 2 * k))) hj rfl (inB_in h3) hdg kk
theorem g_gets1 {index : Nat} (C : Cx E p s m args c cc nL own Us) (hUs : ∀ w ∈ UU, w ∈ Us) (hW : Ww E S s H locs) (hlink : Cond.fieldLink own index RX10 "FIRST_VALUES" "[I" ∈ UU) (hdg : decode cc pc = .ok (.getstatic index, 3))
    (kk : W p l e R s m args below meth c H locs cells slots Q (F0 m (pc + 3) ls (.ref E.2.2.2.2.1 :: rest))) : W p l e R s m args below meth c H locs cells slots Q (F0 m pc ls rest) :=
  va_gets C.1.1 C.1.2.1 C.2.2.1.1.1 hW.2.2 C.1.2.2.2.1 (C.1.2.2.2.2 _ (hUs _ hlink)) (fun _ h => h) hdg kk
theorem g_gets2 {index : Nat} (C : Cx E p s m args c cc nL own Us) (hUs : ∀ w ∈ UU, w ∈ Us) (hW : Ww E S s H locs) (hlink : Cond.fieldLink own index RX10 "MOST_VALUES" "[I" ∈ UU) (hdg : decode cc pc = .ok (.getstatic index, 3))
    (kk : W p l e R s m args below meth c H locs cells slots Q (F0 m (pc + 3) ls (.ref E.2.2.2.2.2 :: rest))) : W p l e R s m args below meth c H locs cells slots Q (F0 m pc ls rest) :=
  va_gets C.1.1 C.1.2.1 C.2.2.1.2.1 hW.2.2 C.1.2.2.2.1 (C.1.2.2.2.2 _ (hUs _ hlink)) (fun _ h => h) hdg kk
theorem g_getsN1 {index : Nat} (C : Cx E p s m args c cc nL own Us) (hW : Ww E S s H locs) (hlink : Cond.fieldLinkNest own index RX10 "FIRST_VALUES" "[I" RX10 ∈ nestW) (hdg : decode cc pc = .ok (.getstatic index, 3))
    (kk : W p l e R s m args below meth c H locs cells slots Q (F0 m (pc + 3) ls (.ref E.2.2.2.2.1 :: rest))) : W p l e R s m args below meth c H locs cells slots Q (F0 m pc ls rest) :=
  va_getsN C.1.1 C.1.2.1 C.2.2.1.1.1 hW.2.2 C.1.2.2.2.1 (va_Nw.use rfl (C.2.2.2 _ hlink)) (fun _ h => h) hdg kk
theorem g_getsN2 {index : Nat} (C : Cx E p s m args c cc nL own Us) (hW : Ww E S s H locs) (hlink : Cond.fieldLinkNest own index RX10 "MOST_VALUES" "[I" RX10 ∈ nestW) (hdg : decode cc pc = .ok (.getstatic index, 3))
    (kk : W p l e R s m args below meth c H locs cells slots Q (F0 m (pc + 3) ls (.ref E.2.2.2.2.2 :: rest))) : W p l e R s m args below meth c H locs cells slots Q (F0 m pc ls rest) :=
  va_getsN C.1.1 C.1.2.1 C.2.2.1.2.1 hW.2.2 C.1.2.2.2.1 (va_Nw.use rfl (C.2.2.2 _ hlink)) (fun _ h => h) hdg kk
theorem Tb_lt1 {U : State} (h : Tb E U H) : E.2.2.2.2.1 < H.size := by
  obtain ⟨⟨-, ⟨scr, h1, -⟩, -⟩, -⟩ := h
  exact (Array.getElem?_eq_some_iff.mp h1).1
theorem Tb_lt2 {U : State} (h : Tb E U H) : E.2.2.2.2.2 < H.size := by
  obtain ⟨-, -, ⟨scr, h1, -⟩, -⟩ := h
  exact (Array.getElem?_eq_some_iff.mp h1).1
theorem g_tld2 (C : Cx E p s m args c cc nL own Us) (hW : Ww E S s H locs) (h : ldT MOSTV i = some x) (hdg : decode cc pc = .ok (.iaload, 1))
    (kk : W p l e R s m args below meth c H locs cells slots Q (F0 m (pc + 1) ls (.int x :: rest))) : W p l e R s m args below meth c H locs cells slots Q (F0 m pc ls (.int i :: .ref E.2.2.2.2.2 :: rest)) := by
  obtain ⟨h3, rfl⟩ := if_so h
  exact va_sld C.1.1 C.1.2.1 C.2.2.1.2.2.1 (Tb_lt2 C.2.2.1) (Nat.not_le.mpr C.2.2.1.2.2.2) hW.2.2 (inB_in h3) hdg kk
theorem dv_so {x y q : Int32} (h : dvO x y = some q) : ¬ y = 0 ∧ x / y = q := by
  unfold dvO at h
  split at h
  · cases h
  · exact ⟨by assumption, Option.some.inj h⟩
theorem rm_so {x y q : Int32} (h : rmO x y = some q) : ¬ y = 0 ∧ x - x / y * y = q := by
  unfold rmO at h
  split at h
  · cases h
  · exact ⟨by assumption, Option.some.inj h⟩
theorem g_idiv {y q : Int32} (C : Cx E p s m args c cc nL own Us) (h : dvO x y = some q) (hdg : decode cc pc = .ok (.idiv, 1)) (kk : W p l e R s m args below meth c H locs cells slots Q (F0 m (pc + 1) ls (.int q :: rest))) : W p l e R s m args below meth c H locs cells slots Q (F0 m pc ls (.int y :: .int x :: rest)) := by
  obtain ⟨hn, rfl⟩ := dv_so h
  exact lv_idiv C.1.1 C.1.2.1 hdg hn kk
theorem g_irem {y q : Int32} (C : Cx E p s m args c cc nL own Us) (h : rmO x y = some q) (hdg : decode cc pc = .ok (.irem, 1)) (kk : W p l e R s m args below meth c H locs cells slots Q (F0 m (pc + 1) ls (.int q :: rest))) : W p l e R s m args below meth c H locs cells slots Q (F0 m pc ls (.int y :: .int x :: rest)) := by
  obtain ⟨hn, rfl⟩ := rm_so h
  exact lv_irem C.1.1 C.1.2.1 hdg hn kk
end ROWS
theorem ift_ {α : Type} {c : Prop} [Decidable c] {a b : Option α} {y : α} (h : (if c then a else b) = some y) (hc : c) : a = some y := by rwa [if_pos hc] at h
theorem iff_ {α : Type} {c : Prop} [Decidable c] {a b : Option α} {y : α} (h : (if c then a else b) = some y) (hc : ¬ c) : b = some y := by rwa [if_neg hc] at h
/-- how often a loop may turn -/
def FU : Nat := 2000
theorem sw_out5 {x : Int32} (h0 : ¬ x = 0) (h1 : ¬ x = 1) (h2 : ¬ x = 2) (h3 : ¬ x = 3) (h4 : ¬ x = 4) (h5 : ¬ x = 5) : x.toInt < 0 ∨ (5 : Int) < x.toInt := by
  have e : ∀ k : Int32, ¬ x = k → x.toInt ≠ k.toInt := fun k h z => h (Int32.toInt_inj.mp z)
  have e0 := e 0 h0
  have e1 := e 1 h1
  have e2 := e 2 h2
  have e3 := e 3 h3
  have e4 := e 4 h4
  have e5 := e 5 h5
  simp at e0 e1 e2 e3 e4 e5
  omega
end
section
/-! copies, calls, a method's start and end -/
theorem cpy_cI (S : St) (a0 sp a1 dp n : Nat) : va_cpy (rI S a0) (rI S a1) sp dp n = rI (cI S a0 sp a1 dp n) a1 := by
  funext j
  simp [rI, cI, va_cpy]
theorem cpy_cJ (S : St) (a0 sp a1 dp n : Nat) : va_cpy (rJ S a0) (rJ S a1) sp dp n = rJ (cJ S a0 sp a1 dp n) a1 := by
  funext j
  simp [rJ, cJ, va_cpy]
theorem cpy_cF (S : St) (f : Nat → Int32) (sp a1 dp n : Nat) : va_cpy f (rI S a1) sp dp n = rI (cF S f sp a1 dp n) a1 := by
  funext j
  simp [rI, cF, va_cpy]
theorem cI_cell (E : En) (S : St) (a0 sp a1 dp n : Nat) : ∀ y, y ≠ a1 → cellOf E (cI S a0 sp a1 dp n) y = cellOf E S y := fun y hy => cell_congr E (fun j => by simp [rI, cI, hy]) (fun _ => rfl) (fun _ => rfl)
theorem cJ_cell (E : En) (S : St) (a0 sp a1 dp n : Nat) : ∀ y, y ≠ a1 → cellOf E (cJ S a0 sp a1 dp n) y = cellOf E S y := fun y hy => cell_congr E (fun _ => rfl) (fun j => by simp [rJ, cJ, hy]) (fun _ => rfl)
theorem cF_cell (E : En) (S : St) (f : Nat → Int32) (sp a1 dp n : Nat) : ∀ y, y ≠ a1 → cellOf E (cF S f sp a1 dp n) y = cellOf E S y := fun y hy => cell_congr E (fun j => by simp [rI, cF, hy]) (fun _ => rfl) (fun _ => rfl)
section CALLS
variable {p : Program} {l : Launch} {e : Env} {R : Room} {s : State} {m : MethodId} {args : Array Value} {below : List Frame} {meth : Method} {c : Code} {H : Heap} {locs : List Loc} {cells slots : Nat} {Q : State → Prop}
variable {cc : ByteArray} {nL pc : Nat} {ls : Array Slot} {rest : List Value} {E : En} {S S1 : St} {own : String} {Us : List Cond} {id : Nat} {i x v : Int32}
/-- what a call of arraycopy links -/
def lkC (own : String) (index : Nat) : Prop := Cond.methodLink own index arraycopyName ∈ UU ∧ Cond.native arraycopyName ∈ UU ∧ Cond.static arraycopyName ∈ UU ∧ Cond.initialized "java/lang/System" ∈ UU
theorem g_copyI {index a0 a1 : Nat} {sp dp n : Int32} (C : Cx E p s m args c cc nL own Us) (hUs : ∀ w ∈ UU, w ∈ Us) (hW : Ww E S s H locs) (hls : ls.size = nL) (hlk : lkC own index) (hfr : 1 ≤ R.frames) (hlo : (rest.map fun v => v.category).sum + (nativeFrameWords "java/lang/System" "arraycopy" 5 + 11) ≤ R.locals) (h : cpI S a0 sp a1 dp n = some S1) (hdg : decode cc pc = .ok (.invokestatic index, 3))
    (kk : ∀ (H1 : Heap) (locs1 : List Loc), Ww E S1 s H1 locs1 → W p l e R s m args below meth c H1 locs1 cells slots Q (F0 m (pc + 3) ls rest)) : W p l e R s m args below meth c H locs cells slots Q (F0 m pc ls (.int n :: .int dp :: .ref (E.ad a1) :: .int sp :: .ref (E.ad a0) :: rest)) := by
  obtain ⟨⟨⟨k0, m0⟩, ⟨k1, m1⟩, ⟨h1, h2, h3⟩, h4, h5⟩, rfl⟩ := if_so h
  obtain ⟨⟨hx, hb, hml, hown, hts⟩, hK, -⟩ := C
  obtain ⟨j0, hj0, -⟩ := ws_at E m0
  obtain ⟨j1, hj1, hj2⟩ := ws_at E m1
  rw [cell_arr E S k0 (by decide) (by decide) (by decide) (by decide)] at hj0
  rw [cell_arr E S k1 (by decide) (by decide) (by decide) (by decide)] at hj1
  refine va_copyi hx hb (hml.trans hls.symm) hown (hts _ (hUs _ hlk.1)) (hts _ (hUs _ hlk.2.1)) (hts _ (hUs _ hlk.2.2.1)) (hts _ (hUs _ hlk.2.2.2)) hK hW.1 hW.2.1 hW.2.2 j0 j1 1 1 (ty := .int) hj0 hj1 rfl rfl rfl h1 h2 h3 h4 h5 (fun _ _ => rfl) hfr hlo hdg (fun H1 locs1 p1 d1 s1 => kk H1 locs1 ?_)
  rw [cpy_cI, ← cell_arr E (cI S a0 sp.toNatClampNeg a1 dp.toNatClampNeg n.toNatClampNeg) k1 (by decide) (by decide) (by decide) (by decide), ws_set E (S' := cI S a0 sp.toNatClampNeg a1 dp.toNatClampNeg n.toNatClampNeg) hj2 rfl (cI_cell E S _ _ _ _ _)] at p1 d1
  exact ⟨p1, d1, s1⟩
theorem g_copyJ {index a0 a1 : Nat} {sp dp n : Int32} (C : Cx E p s m args c cc nL own Us) (hUs : ∀ w ∈ UU, w ∈ Us) (hW : Ww E S s H locs) (hls : ls.size = nL) (hlk : lkC own index) (hfr : 1 ≤ R.frames) (hlo : (rest.map fun v => v.category).sum + (nativeFrameWords "java/lang/System" "arraycopy" 5 + 11) ≤ R.locals) (h : cpJ S a0 sp a1 dp n = some S1) (hdg : decode cc pc = .ok (.invokestatic index, 3))
    (kk : ∀ (H1 : Heap) (locs1 : List Loc), Ww E S1 s H1 locs1 → W p l e R s m args below meth c H1 locs1 cells slots Q (F0 m (pc + 3) ls rest)) : W p l e R s m args below meth c H locs cells slots Q (F0 m pc ls (.int n :: .int dp :: .ref (E.ad a1) :: .int sp :: .ref (E.ad a0) :: rest)) := by
  obtain ⟨⟨⟨k0, m0⟩, ⟨k1, m1⟩, ⟨h1, h2, h3⟩, h4, h5⟩, rfl⟩ := if_so h
  obtain ⟨⟨hx, hb, hml, hown, hts⟩, hK, -⟩ := C
  obtain ⟨j0, hj0, -⟩ := ws_at E m0
  obtain ⟨j1, hj1, hj2⟩ := ws_at E m1
  rw [cell_lon E S k0] at hj0
  rw [cell_lon E S k1] at hj1
  refine va_copyl hx hb (hml.trans hls.symm) hown (hts _ (hUs _ hlk.1)) (hts _ (hUs _ hlk.2.1)) (hts _ (hUs _ hlk.2.2.1)) (hts _ (hUs _ hlk.2.2.2)) hK hW.1 hW.2.1 hW.2.2 j0 j1 2 2 (ty := .long) hj0 hj1 rfl rfl rfl h1 h2 h3 h4 h5 (fun _ _ => rfl) hfr hlo hdg (fun H1 locs1 p1 d1 s1 => kk H1 locs1 ?_)
  rw [cpy_cJ, ← cell_lon E (cJ S a0 sp.toNatClampNeg a1 dp.toNatClampNeg n.toNatClampNeg) k1, ws_set E (S' := cJ S a0 sp.toNatClampNeg a1 dp.toNatClampNeg n.toNatClampNeg) hj2 rfl (cJ_cell E S _ _ _ _ _)] at p1 d1
  exact ⟨p1, d1, s1⟩
theorem g_copyF {index a1 : Nat} {sp dp n : Int32} (C : Cx E p s m args c cc nL own Us) (hUs : ∀ w ∈ UU, w ∈ Us) (hW : Ww E S s H locs) (hls : ls.size = nL) (hlk : lkC own index) (hfr : 1 ≤ R.frames) (hlo : (rest.map fun v => v.category).sum + (nativeFrameWords "java/lang/System" "arraycopy" 5 + 11) ≤ R.locals) (h : cpF S FIRSTV sp a1 dp n = some S1) (hdg : decode cc pc = .ok (.invokestatic index, 3))
    (kk : ∀ (H1 : Heap) (locs1 : List Loc), Ww E S1 s H1 locs1 → W p l e R s m args below meth c H1 locs1 cells slots Q (F0 m (pc + 3) ls rest)) : W p l e R s m args below meth c H locs cells slots Q (F0 m pc ls (.int n :: .int dp :: .ref (E.ad a1) :: .int sp :: .ref E.2.2.2.2.1 :: rest)) := by
  obtain ⟨⟨⟨k1, m1⟩, ⟨h1, h2, h3⟩, h4, h5⟩, rfl⟩ := if_so h
  obtain ⟨⟨hx, hb, hml, hown, hts⟩, hK, hT, -⟩ := C
  obtain ⟨j1, hj1, hj2⟩ := ws_at E m1
  rw [cell_arr E S k1 (by decide) (by decide) (by decide) (by decide)] at hj1
  refine va_copyx hx hb (hml.trans hls.symm) hown (hts _ (hUs _ hlk.1)) (hts _ (hUs _ hlk.2.1)) (hts _ (hUs _ hlk.2.2.1)) (hts _ (hUs _ hlk.2.2.2)) hK hW.1 hW.2.1 hW.2.2 hT.1.2.1 (Tb_lt1 hT) (Nat.not_le.mpr hT.1.2.2) j1 1 hj1 rfl h1 h2 h3 h4 h5 hfr hlo hdg (fun H1 locs1 p1 d1 s1 => kk H1 locs1 ?_)
  rw [cpy_cF, ← cell_arr E (cF S FIRSTV sp.toNatClampNeg a1 dp.toNatClampNeg n.toNatClampNeg) k1 (by decide) (by decide) (by decide) (by decide), ws_set E (S' := cF S FIRSTV sp.toNatClampNeg a1 dp.toNatClampNeg n.toNatClampNeg) hj2 rfl (cF_cell E S _ _ _ _ _)] at p1 d1
  exact ⟨p1, d1, s1⟩
theorem Tb_moved {s t : State} (hvm : s.vm.Alike t.vm) (hq : ∀ a : Nat, a < s.heap.size → ¬ Ab E a → t.heap[a]? = s.heap[a]?) (h : Tb E s s.heap) : Tb E t t.heap := by
  have l1 := Tb_lt1 h
  have l2 := Tb_lt2 h
  obtain ⟨⟨a1, a2, a3⟩, b1, b2, b3⟩ := h
  exact ⟨⟨(va_Z.moved hvm a1).kept hq, (va_X.moved hvm a2).kept (hq _ l1 (Nat.not_le.mpr a3)), a3⟩, (va_Z.moved hvm b1).kept hq, (va_X.moved hvm b2).kept (hq _ l2 (Nat.not_le.mpr b3)), b3⟩
theorem Pw_blind (E : En) (S : St) (av : List Value) : FrameBlind (va_Pc av (Pw E S)) := fun a U g mk h => by
  obtain ⟨h0, h1, h2, h3, h4, h5⟩ := h
  exact ⟨h0, h1, h2, va_K.moved (u := U) (U := U.calling g mk a) (Vm.Alike.refl U.vm) h3, Tb_moved (s := U) (t := U.calling g mk a) (Vm.Alike.refl U.vm) (fun _ _ _ => rfl) h4, Nn_vm (s := U) rfl h5⟩
theorem Pw_of {t : State} (hK : va_K E.1 cl (tys E) s) (hT : Tb E s s.heap ∧ Nn s) (hW : Ww E S s H locs) (ht : t.heap = H) (hvm : s.WarmedH t.vm) : Pw E S t := by
  refine ⟨by rw [ht]; exact hW.1, hW.2.1, va_K.moved hvm.alike hK, Tb_moved hvm.alike (fun a h1 h2 => by rw [ht]; exact hW.2.2.2.1 a h1 h2) hT.1, Nn_warm hvm hT.2⟩
/-- the words of a call of an instance method -/
def lkV (own C : String) (index : Nat) (y : MethodName) (bytes : ByteArray) (maxL : Nat) (ret : Option FieldType) (n : Nat) : Prop :=
  (Cond.methodLink own index y ∈ UU ∧ Cond.instanceMethod y ∈ UU ∧ Cond.selects C y y ∈ UU ∧ Cond.initialized C ∈ UU ∧ Cond.code y bytes maxL ret ∈ UU) ∧ (y.cls = C ∧ y.cls ≠ "java/lang/invoke/MethodHandle" ∧ y.cls ≠ "java/lang/invoke/VarHandle" ∧ (parseMethodDescriptor y.desc).map (fun d => d.parameters.length) = some n)
def lkS (own : String) (index : Nat) (y : MethodName) (bytes : ByteArray) (maxL : Nat) (ret : Option FieldType) (n : Nat) : Prop :=
  (Cond.methodLink own index y ∈ UU ∧ Cond.static y ∈ UU ∧ Cond.initialized y.cls ∈ UU ∧ Cond.code y bytes maxL ret ∈ UU) ∧ (y.cls ≠ "java/lang/invoke/MethodHandle" ∧ y.cls ≠ "java/lang/invoke/VarHandle" ∧ (parseMethodDescriptor y.desc).map (fun d => d.parameters.length) = some n)
/-- contracts: the int answer, nothing -/
abbrev Mi (l : Launch) (E : En) (y : MethodName) (cc : ByteArray) (n : Nat) (ret : Option FieldType) (rm : Room) (av : List Value) (S : St) (r : Int32) (S1 : St) : Prop := Met l y (Cond.code y cc n ret :: UU) rm (va_Pc av (Pw E S)) (va_Qi (fun (x : Int32) (u : St) => x = r ∧ u = S1) (Pw E) (Ab E)) 0 0 (Ab E)
abbrev Mv (l : Launch) (E : En) (y : MethodName) (cc : ByteArray) (n : Nat) (ret : Option FieldType) (rm : Room) (av : List Value) (S S1 : St) : Prop := Met l y (Cond.code y cc n ret :: UU) rm (va_Pc av (Pw E S)) (va_Qv (fun (u : St) => u = S1) (Pw E) (Ab E)) 0 0 (Ab E)
theorem g_recv {ci : Nat} {q : vw_C} (hK : va_K E.1 cl (tys E) s) (hW : Ww E S s H locs) (hc : cl[ci]? = some q) (hk0 : kk_ id = 0) (hk1 : kl id = ci) (hid : id ∈ ids S) : ∃ cell : Cell, H[E.ad id]? = some cell ∧ cell.vm.isStatics = false ∧ s.vm.findClass q.1 = some cell.cls := by
  obtain ⟨j, hj, -⟩ := ws_at E hid
  rw [cell_obj E S hk0 hk1] at hj
  exact va_recv hK hW.1 hc hj
theorem g_preV {q : vw_C} {ci : Nat} {As : List Value} (C : Cx E p s m args c cc nL own Us) (hW : Ww E S s H locs) (hc : cl[ci]? = some q) (hk0 : kk_ id = 0) (hk1 : kl id = ci) (hid : id ∈ ids S) : PreV s H q.1 (E.ad id) (va_Pc (.ref (E.ad id) :: As) (Pw E S)) As :=
  ⟨Pw_blind E S _, g_recv C.2.1 hW hc hk0 hk1 hid, fun U hU hw => ⟨rfl, Pw_of C.2.1 C.2.2 hW hU hw⟩⟩
theorem g_preS {As : List Value} (C : Cx E p s m args c cc nL own Us) (hW : Ww E S s H locs) : PreS s H (va_Pc As (Pw E S)) As :=
  ⟨Pw_blind E S _, fun U hU hw => ⟨rfl, Pw_of C.2.1 C.2.2 hW hU hw⟩⟩
theorem g_afterP {t : State} {H1 : Heap} {locs1 : List Loc} (ht : t.heap = H1) (hB : Pw E S1 t) (hS : va_S (Ab E) s.heap H1 locs1) : Ww E S1 s H1 locs1 := ⟨by rw [← ht]; exact hB.1, hB.2.1, hS⟩
theorem g_callVi {q : vw_C} {ci index maxL n : Nat} {y : MethodName} {bytes : ByteArray} {ret : Option FieldType} {rm : Room} {As : List Value} {r : Int32} (C : Cx E p s m args c cc nL own Us) (hUs : ∀ w ∈ UU, w ∈ Us) (hW : Ww E S s H locs) (hls : ls.size = nL) (hM : Mi l E y bytes maxL ret rm (.ref (E.ad id) :: As) S r S1) (hc : cl[ci]? = some q) (hk0 : kk_ id = 0) (hk1 : kl id = ci) (hid : id ∈ ids S) (hlk : lkV own q.1 index y bytes maxL ret n) (hn : As.length = n) (hrm : rm.cells = 0 ∧ rm.slots = 0) (hR : rm.frames + 1 ≤ R.frames ∧ 8 + (maxL + 11) + rm.locals ≤ R.locals) (hf : cells ≤ R.cells ∧ slots ≤ R.slots) (st : List Value) (hst : st = As.reverse ++ .ref (E.ad id) :: rest) (hroom : (rest.map fun v => v.category).sum ≤ 8) (hdg : decode cc pc = .ok (.invokevirtual index, 3))
    (kk : ∀ (H1 : Heap) (locs1 : List Loc), Ww E S1 s H1 locs1 → W p l e R s m args below meth c H1 locs1 cells slots Q (F0 m (pc + 3) ls (.int r :: rest))) : W p l e R s m args below meth c H locs cells slots Q (F0 m pc ls st) := by
  obtain ⟨hl, hd⟩ := hlk
  refine va_calli (va_runV (As := As) (rest := rest) (C := q.1) C.1 hM (cwV n C.1.2.2.2.2 (gUV hUs hl.1 hl.2.1 hl.2.2.1 hl.2.2.2.1 hl.2.2.2.2) rfl hrm.1 hrm.2 hd hR) (g_preV C hW hc hk0 hk1 hid) rfl hn hls hst (lv_room hroom) hdg hf) hW.2.2 (fun q _ h => h) (fun q h => h) (fun r1 u t H1 locs1 ht hvm hw hB hz1 hk1 hS => ?_)
  obtain ⟨rfl, rfl⟩ := hw
  exact kk H1 locs1 (g_afterP ht hB hS)
theorem g_callVv {q : vw_C} {ci index maxL n : Nat} {y : MethodName} {bytes : ByteArray} {ret : Option FieldType} {rm : Room} {As : List Value} (C : Cx E p s m args c cc nL own Us) (hUs : ∀ w ∈ UU, w ∈ Us) (hW : Ww E S s H locs) (hls : ls.size = nL) (hM : Mv l E y bytes maxL ret rm (.ref (E.ad id) :: As) S S1) (hc : cl[ci]? = some q) (hk0 : kk_ id = 0) (hk1 : kl id = ci) (hid : id ∈ ids S) (hlk : lkV own q.1 index y bytes maxL ret n) (hn : As.length = n) (hrm : rm.cells = 0 ∧ rm.slots = 0) (hR : rm.frames + 1 ≤ R.frames ∧ 8 + (maxL + 11) + rm.locals ≤ R.locals) (hf : cells ≤ R.cells ∧ slots ≤ R.slots) (st : List Value) (hst : st = As.reverse ++ .ref (E.ad id) :: rest) (hroom : (rest.map fun v => v.category).sum ≤ 8) (hdg : decode cc pc = .ok (.invokevirtual index, 3))
    (kk : ∀ (H1 : Heap) (locs1 : List Loc), Ww E S1 s H1 locs1 → W p l e R s m args below meth c H1 locs1 cells slots Q (F0 m (pc + 3) ls rest)) : W p l e R s m args below meth c H locs cells slots Q (F0 m pc ls st) := by
  obtain ⟨hl, hd⟩ := hlk
  refine va_callv (va_runV (As := As) (rest := rest) (C := q.1) C.1 hM (cwV n C.1.2.2.2.2 (gUV hUs hl.1 hl.2.1 hl.2.2.1 hl.2.2.2.1 hl.2.2.2.2) rfl hrm.1 hrm.2 hd hR) (g_preV C hW hc hk0 hk1 hid) rfl hn hls hst (lv_room hroom) hdg hf) hW.2.2 (fun q _ h => h) (fun q h => h) (fun u t H1 locs1 ht hvm hw hB hz1 hk1 hS => ?_)
  subst hw
  exact kk H1 locs1 (g_afterP ht hB hS)
theorem g_callSi {index maxL n : Nat} {y : MethodName} {bytes : ByteArray} {ret : Option FieldType} {rm : Room} {As : List Value} {r : Int32} (C : Cx E p s m args c cc nL own Us) (hUs : ∀ w ∈ UU, w ∈ Us) (hW : Ww E S s H locs) (hls : ls.size = nL) (hM : Mi l E y bytes maxL ret rm As S r S1) (hlk : lkS own index y bytes maxL ret n) (hn : As.length = n) (hrm : rm.cells = 0 ∧ rm.slots = 0) (hR : rm.frames + 1 ≤ R.frames ∧ 8 + (maxL + 11) + rm.locals ≤ R.locals) (hf : cells ≤ R.cells ∧ slots ≤ R.slots) (st : List Value) (hst : st = As.reverse ++ rest) (hroom : (rest.map fun v => v.category).sum ≤ 8) (hdg : decode cc pc = .ok (.invokestatic index, 3))
    (kk : ∀ (H1 : Heap) (locs1 : List Loc), Ww E S1 s H1 locs1 → W p l e R s m args below meth c H1 locs1 cells slots Q (F0 m (pc + 3) ls (.int r :: rest))) : W p l e R s m args below meth c H locs cells slots Q (F0 m pc ls st) := by
  obtain ⟨hl, hd⟩ := hlk
  refine va_calli (va_runS (As := As) (rest := rest) C.1 hM (va_cwS n C.1.2.2.2.2 (gUS hUs hl.1 hl.2.1 hl.2.2.1 hl.2.2.2) rfl hrm.1 hrm.2 hd hR) (g_preS C hW) rfl hn hls hst (lv_room hroom) hdg hf) hW.2.2 (fun q _ h => h) (fun q h => h) (fun r1 u t H1 locs1 ht hvm hw hB hz1 hk1 hS => ?_)
  obtain ⟨rfl, rfl⟩ := hw
  exact kk H1 locs1 (g_afterP ht hB hS)
theorem g_callSv {index maxL n : Nat} {y : MethodName} {bytes : ByteArray} {ret : Option FieldType} {rm : Room} {As : List Value} (C : Cx E p s m args c cc nL own Us) (hUs : ∀ w ∈ UU, w ∈ Us) (hW : Ww E S s H locs) (hls : ls.size = nL) (hM : Mv l E y bytes maxL ret rm As S S1) (hlk : lkS own index y bytes maxL ret n) (hn : As.length = n) (hrm : rm.cells = 0 ∧ rm.slots = 0) (hR : rm.frames + 1 ≤ R.frames ∧ 8 + (maxL + 11) + rm.locals ≤ R.locals) (hf : cells ≤ R.cells ∧ slots ≤ R.slots) (st : List Value) (hst : st = As.reverse ++ rest) (hroom : (rest.map fun v => v.category).sum ≤ 8) (hdg : decode cc pc = .ok (.invokestatic index, 3))
    (kk : ∀ (H1 : Heap) (locs1 : List Loc), Ww E S1 s H1 locs1 → W p l e R s m args below meth c H1 locs1 cells slots Q (F0 m (pc + 3) ls rest)) : W p l e R s m args below meth c H locs cells slots Q (F0 m pc ls st) := by
  obtain ⟨hl, hd⟩ := hlk
  refine va_callv (va_runS (As := As) (rest := rest) C.1 hM (va_cwS n C.1.2.2.2.2 (gUS hUs hl.1 hl.2.1 hl.2.2.1 hl.2.2.2) rfl hrm.1 hrm.2 hd hR) (g_preS C hW) rfl hn hls hst (lv_room hroom) hdg hf) hW.2.2 (fun q _ h => h) (fun q h => h) (fun u t H1 locs1 ht hvm hw hB hz1 hk1 hS => ?_)
  subst hw
  exact kk H1 locs1 (g_afterP ht hB hS)
/-- Math's three -/
def lkM (own : String) (index : Nat) (y : MethodName) (bytes : ByteArray) (n : Nat) : Prop := Cond.methodLink own index y ∈ UU ∧ Cond.static y ∈ UU ∧ Cond.initialized "java/lang/Math" ∈ UU ∧ Cond.code y bytes n (some .int) ∈ UU
theorem g_max {index : Nat} {x y : Int32} (C : Cx E p s m args c cc nL own Us) (hUs : ∀ w ∈ UU, w ∈ Us) (hls : ls.size = nL) (hlk : lkM own index Lib.Math.max.name Lib.Math.max.code 2) (hfr : 1 ≤ R.frames) (hlo : (rest.map fun v => v.category).sum + 13 ≤ R.locals) (hf : cells ≤ R.cells ∧ slots ≤ R.slots) (hdg : decode cc pc = .ok (.invokestatic index, 3))
    (kk : W p l e R s m args below meth c H locs cells slots Q (F0 m (pc + 3) ls (.int (if x < y then y else x) :: rest))) : W p l e R s m args below meth c H locs cells slots Q (F0 m pc ls (.int y :: .int x :: rest)) :=
  va_mmax C.1.1 C.1.2.1 (C.1.2.2.1.trans hls.symm) C.1.2.2.2.1 (C.1.2.2.2.2 _ (hUs _ hlk.1)) (C.1.2.2.2.2 _ (hUs _ hlk.2.1)) (C.1.2.2.2.2 _ (hUs _ hlk.2.2.1)) (C.1.2.2.2.2 _ (hUs _ hlk.2.2.2)) hfr hlo hf.1 hf.2 hdg kk
theorem g_min {index : Nat} {x y : Int32} (C : Cx E p s m args c cc nL own Us) (hUs : ∀ w ∈ UU, w ∈ Us) (hls : ls.size = nL) (hlk : lkM own index Lib.Math.min.name Lib.Math.min.code 2) (hfr : 1 ≤ R.frames) (hlo : (rest.map fun v => v.category).sum + 13 ≤ R.locals) (hf : cells ≤ R.cells ∧ slots ≤ R.slots) (hdg : decode cc pc = .ok (.invokestatic index, 3))
    (kk : W p l e R s m args below meth c H locs cells slots Q (F0 m (pc + 3) ls (.int (if y < x then y else x) :: rest))) : W p l e R s m args below meth c H locs cells slots Q (F0 m pc ls (.int y :: .int x :: rest)) :=
  va_mmin C.1.1 C.1.2.1 (C.1.2.2.1.trans hls.symm) C.1.2.2.2.1 (C.1.2.2.2.2 _ (hUs _ hlk.1)) (C.1.2.2.2.2 _ (hUs _ hlk.2.1)) (C.1.2.2.2.2 _ (hUs _ hlk.2.2.1)) (C.1.2.2.2.2 _ (hUs _ hlk.2.2.2)) hfr hlo hf.1 hf.2 hdg kk
theorem g_abs {index : Nat} {x : Int32} (C : Cx E p s m args c cc nL own Us) (hUs : ∀ w ∈ UU, w ∈ Us) (hls : ls.size = nL) (hlk : lkM own index Lib.Math.abs.name Lib.Math.abs.code 1) (hfr : 1 ≤ R.frames) (hlo : (rest.map fun v => v.category).sum + 13 ≤ R.locals) (hf : cells ≤ R.cells ∧ slots ≤ R.slots) (hdg : decode cc pc = .ok (.invokestatic index, 3))
    (kk : W p l e R s m args below meth c H locs cells slots Q (F0 m (pc + 3) ls (.int (if 0 ≤ x then x else 0 - x) :: rest))) : W p l e R s m args below meth c H locs cells slots Q (F0 m pc ls (.int x :: rest)) :=
  va_mabs C.1.1 C.1.2.1 (C.1.2.2.1.trans hls.symm) C.1.2.2.2.1 (C.1.2.2.2.2 _ (hUs _ hlk.1)) (C.1.2.2.2.2 _ (hUs _ hlk.2.1)) (C.1.2.2.2.2 _ (hUs _ hlk.2.2.1)) (C.1.2.2.2.2 _ (hUs _ hlk.2.2.2)) hfr hlo hf.1 hf.2 hdg kk
theorem g_us {w0 : Cond} : ∀ w ∈ UU, w ∈ w0 :: UU := fun _ h => List.mem_cons_of_mem _ h
/-- a method's start: the words are its code and UU; what comes behind its end is a hypothesis -/
theorem g_startI {y : MethodName} {n : Nat} {av : List Value} {rm : Room} {r : Int32} (hy : plainName y.cls = true) (hlen : (lg_sl av).length ≤ n)
    (body : ∀ (p : Program) (e : Env) (s : State) (m : MethodId) (args : Array Value) (below : List Frame) (meth : Method) (c : Code) (Q : State → Prop) (H : Heap) (locs : List Loc), Cx E p s m args c cc n y.cls (Cond.code y cc n (some .int) :: UU) → (∀ (H : Heap) (locs : List Loc) (pc : Nat) (ls : Array Slot), Ww E S1 s H locs → decode cc pc = .ok (.ireturn, 1) → W p l e rm s m args below meth c H locs 0 0 Q (F0 m pc ls [.int r])) → Ww E S s H locs → ∀ ls : Array Slot, lv_has ls n (lv_args 0 av) → W p l e rm s m args below meth c H locs 0 0 Q (F0 m 0 ls [])) : Mi l E y cc n (some .int) rm av S r S1 := by
  refine Met.ofW (cc := cc) (maxL := n) (ret := some .int) hy rfl ?_
  intro p e s m args below meth c s₁ B hml hv
  obtain ⟨rfl, h1, h2, h3, h4⟩ := hv
  have hl := lv_entry av (n := n) hlen
  rw [lg_entry_eq]
  have C : Cx E p s m av.toArray c cc n y.cls (Cond.code y cc n (some .int) :: UU) := ⟨⟨B.exec, B.bytes, hml, findClass_of_methodNamed B.named, atoms_spec (ws := Cond.code y cc n (some .int) :: UU) B.pre⟩, h3, h4⟩
  refine body p e s m _ below meth c _ _ _ C (fun H locs pc ls hW hdg => ?_) ⟨h1, h2, va_S.rf⟩ _ hl
  exact W.iret C.1.1 C.1.2.1 B.returns (fun t ht hw => ⟨⟨r, S1, rfl, ⟨rfl, rfl⟩, Pw_of C.2.1 C.2.2 hW ht hw⟩, hW.2.2.F ht⟩) hW.2.2.2.2 hdg B.notSynchronized
theorem g_startZ {y : MethodName} {n : Nat} {av : List Value} {rm : Room} {r : Int32} (hy : plainName y.cls = true) (hlen : (lg_sl av).length ≤ n)
    (body : ∀ (p : Program) (e : Env) (s : State) (m : MethodId) (args : Array Value) (below : List Frame) (meth : Method) (c : Code) (Q : State → Prop) (H : Heap) (locs : List Loc), Cx E p s m args c cc n y.cls (Cond.code y cc n (some .boolean) :: UU) → (∀ (H : Heap) (locs : List Loc) (pc : Nat) (ls : Array Slot), Ww E S1 s H locs → (r = 0 ∨ r = 1) → decode cc pc = .ok (.ireturn, 1) → W p l e rm s m args below meth c H locs 0 0 Q (F0 m pc ls [.int r])) → Ww E S s H locs → ∀ ls : Array Slot, lv_has ls n (lv_args 0 av) → W p l e rm s m args below meth c H locs 0 0 Q (F0 m 0 ls [])) : Mi l E y cc n (some .boolean) rm av S r S1 := by
  refine Met.ofW (cc := cc) (maxL := n) (ret := some .boolean) hy rfl ?_
  intro p e s m args below meth c s₁ B hml hv
  obtain ⟨rfl, h1, h2, h3, h4⟩ := hv
  have hl := lv_entry av (n := n) hlen
  rw [lg_entry_eq]
  have C : Cx E p s m av.toArray c cc n y.cls (Cond.code y cc n (some .boolean) :: UU) := ⟨⟨B.exec, B.bytes, hml, findClass_of_methodNamed B.named, atoms_spec (ws := Cond.code y cc n (some .boolean) :: UU) B.pre⟩, h3, h4⟩
  refine body p e s m _ below meth c _ _ _ C (fun H locs pc ls hW hz hdg => ?_) ⟨h1, h2, va_S.rf⟩ _ hl
  exact W.zret C.1.1 C.1.2.1 B.returns (by rcases hz with rfl | rfl <;> rfl) (fun t ht hw => ⟨⟨r, S1, rfl, ⟨rfl, rfl⟩, Pw_of C.2.1 C.2.2 hW ht hw⟩, hW.2.2.F ht⟩) hW.2.2.2.2 hdg B.notSynchronized
theorem g_startV {y : MethodName} {n : Nat} {av : List Value} {rm : Room} (hy : plainName y.cls = true) (hlen : (lg_sl av).length ≤ n)
    (body : ∀ (p : Program) (e : Env) (s : State) (m : MethodId) (args : Array Value) (below : List Frame) (meth : Method) (c : Code) (Q : State → Prop) (H : Heap) (locs : List Loc), Cx E p s m args c cc n y.cls (Cond.code y cc n none :: UU) → (∀ (H : Heap) (locs : List Loc) (pc : Nat) (ls : Array Slot), Ww E S1 s H locs → decode cc pc = .ok (.return_, 1) → W p l e rm s m args below meth c H locs 0 0 Q (F0 m pc ls [])) → Ww E S s H locs → ∀ ls : Array Slot, lv_has ls n (lv_args 0 av) → W p l e rm s m args below meth c H locs 0 0 Q (F0 m 0 ls [])) : Mv l E y cc n none rm av S S1 := by
  refine Met.ofW (cc := cc) (maxL := n) (ret := none) hy rfl ?_
  intro p e s m args below meth c s₁ B hml hv
  obtain ⟨rfl, h1, h2, h3, h4⟩ := hv
  have hl := lv_entry av (n := n) hlen
  rw [lg_entry_eq]
  have C : Cx E p s m av.toArray c cc n y.cls (Cond.code y cc n none :: UU) := ⟨⟨B.exec, B.bytes, hml, findClass_of_methodNamed B.named, atoms_spec (ws := Cond.code y cc n none :: UU) B.pre⟩, h3, h4⟩
  refine body p e s m _ below meth c _ _ _ C (fun H locs pc ls hW hdg => ?_) ⟨h1, h2, va_S.rf⟩ _ hl
  exact W.vret C.1.1 C.1.2.1 B.returns (fun t ht hw => ⟨⟨S1, rfl, rfl, Pw_of C.2.1 C.2.2 hW ht hw⟩, hW.2.2.F ht⟩) hW.2.2.2.2 hdg B.notSynchronized
end CALLS
end
section
theorem f_RX0_15 : Cond.fieldLink RX0 15 (TX0 1).1 (TX0 1).2.1 (TX0 1).2.2.1 ∈ UU := inUU (by decide +kernel)
theorem f_RX0_18 : Cond.fieldLink RX0 18 (TX0 2).1 (TX0 2).2.1 (TX0 2).2.2.1 ∈ UU := inUU (by decide +kernel)
theorem f_RX0_21 : Cond.fieldLink RX0 21 (TX0 3).1 (TX0 3).2.1 (TX0 3).2.2.1 ∈ UU := inUU (by decide +kernel)
theorem f_RX0_24 : Cond.fieldLink RX0 24 (TX0 4).1 (TX0 4).2.1 (TX0 4).2.2.1 ∈ UU := inUU (by decide +kernel)
theorem f_RX0_27 : Cond.fieldLink RX0 27 (TX6 0).1 (TX6 0).2.1 (TX6 0).2.2.1 ∈ UU := inUU (by decide +kernel)
theorem f_RX0_48 : Cond.fieldLink RX0 48 (TX6 1).1 (TX6 1).2.1 (TX6 1).2.2.1 ∈ UU := inUU (by decide +kernel)
theorem f_RX0_9 : Cond.fieldLink RX0 9 (TX0 0).1 (TX0 0).2.1 (TX0 0).2.2.1 ∈ UU := inUU (by decide +kernel)
theorem f_RX10_10 : Cond.fieldLink RX10 10 (TX10 0).1 (TX10 0).2.1 (TX10 0).2.2.1 ∈ UU := inUU (by decide +kernel)
theorem f_RX10_115 : Cond.fieldLink RX10 115 (TX6 1).1 (TX6 1).2.1 (TX6 1).2.2.1 ∈ UU := inUU (by decide +kernel)
theorem f_RX10_157 : Cond.fieldLink RX10 157 (TX1 1).1 (TX1 1).2.1 (TX1 1).2.2.1 ∈ UU := inUU (by decide +kernel)
theorem f_RX10_161 : Cond.fieldLink RX10 161 (TX5 0).1 (TX5 0).2.1 (TX5 0).2.2.1 ∈ UU := inUU (by decide +kernel)
theorem f_RX10_169 : Cond.fieldLink RX10 169 (TX1 2).1 (TX1 2).2.1 (TX1 2).2.2.1 ∈ UU := inUU (by decide +kernel)
theorem f_RX10_173 : Cond.fieldLink RX10 173 (TX3 0).1 (TX3 0).2.1 (TX3 0).2.2.1 ∈ UU := inUU (by decide +kernel)
theorem f_RX10_203 : Cond.fieldLink RX10 203 (TX8 0).1 (TX8 0).2.1 (TX8 0).2.2.1 ∈ UU := inUU (by decide +kernel)
theorem f_RX10_211 : Cond.fieldLink RX10 211 (TX8 1).1 (TX8 1).2.1 (TX8 1).2.2.1 ∈ UU := inUU (by decide +kernel)
theorem f_RX10_218 : Cond.fieldLink RX10 218 (TX5 1).1 (TX5 1).2.1 (TX5 1).2.2.1 ∈ UU := inUU (by decide +kernel)
theorem f_RX10_221 : Cond.fieldLink RX10 221 (TX1 3).1 (TX1 3).2.1 (TX1 3).2.2.1 ∈ UU := inUU (by decide +kernel)
theorem f_RX10_23 : Cond.fieldLink RX10 23 (TX10 2).1 (TX10 2).2.1 (TX10 2).2.2.1 ∈ UU := inUU (by decide +kernel)
theorem f_RX10_258 : Cond.fieldLink RX10 258 (TX6 2).1 (TX6 2).2.1 (TX6 2).2.2.1 ∈ UU := inUU (by decide +kernel)
theorem f_RX10_270 : Cond.fieldLink RX10 270 (TX7 0).1 (TX7 0).2.1 (TX7 0).2.2.1 ∈ UU := inUU (by decide +kernel)
theorem f_RX10_279 : Cond.fieldLink RX10 279 (TX7 2).1 (TX7 2).2.1 (TX7 2).2.2.1 ∈ UU := inUU (by decide +kernel)
theorem f_RX10_30 : Cond.fieldLink RX10 30 (TX10 3).1 (TX10 3).2.1 (TX10 3).2.2.1 ∈ UU := inUU (by decide +kernel)
theorem f_RX10_37 : Cond.fieldLink RX10 37 (TX10 4).1 (TX10 4).2.1 (TX10 4).2.2.1 ∈ UU := inUU (by decide +kernel)
theorem f_RX10_44 : Cond.fieldLink RX10 44 (TX10 5).1 (TX10 5).2.1 (TX10 5).2.2.1 ∈ UU := inUU (by decide +kernel)
theorem f_RX10_51 : Cond.fieldLink RX10 51 (TX10 6).1 (TX10 6).2.1 (TX10 6).2.2.1 ∈ UU := inUU (by decide +kernel)
theorem f_RX10_58 : Cond.fieldLink RX10 58 (TX10 7).1 (TX10 7).2.1 (TX10 7).2.2.1 ∈ UU := inUU (by decide +kernel)
theorem f_RX10_62 : Cond.fieldLink RX10 62 (TX1 0).1 (TX1 0).2.1 (TX1 0).2.2.1 ∈ UU := inUU (by decide +kernel)
theorem f_RX10_66 : Cond.fieldLink RX10 66 (TX6 0).1 (TX6 0).2.1 (TX6 0).2.2.1 ∈ UU := inUU (by decide +kernel)
theorem f_RX10_80 : Cond.fieldLink RX10 80 RX10 "MOST_VALUES" "[I" ∈ UU := inUU (by decide +kernel)
theorem f_RX11_13 : Cond.fieldLink RX11 13 (TX11 1).1 (TX11 1).2.1 (TX11 1).2.2.1 ∈ UU := inUU (by decide +kernel)
theorem f_RX11_151 : Cond.fieldLink RX11 151 (TX11 5).1 (TX11 5).2.1 (TX11 5).2.2.1 ∈ UU := inUU (by decide +kernel)
theorem f_RX11_155 : Cond.fieldLink RX11 155 (TX11 6).1 (TX11 6).2.1 (TX11 6).2.2.1 ∈ UU := inUU (by decide +kernel)
theorem f_RX11_17 : Cond.fieldLink RX11 17 (TX11 2).1 (TX11 2).2.1 (TX11 2).2.2.1 ∈ UU := inUU (by decide +kernel)
theorem f_RX11_20 : Cond.fieldLink RX11 20 (TX11 3).1 (TX11 3).2.1 (TX11 3).2.2.1 ∈ UU := inUU (by decide +kernel)
theorem f_RX11_23 : Cond.fieldLink RX11 23 (TX11 4).1 (TX11 4).2.1 (TX11 4).2.2.1 ∈ UU := inUU (by decide +kernel)
theorem f_RX11_26 : Cond.fieldLink RX11 26 (TX11 7).1 (TX11 7).2.1 (TX11 7).2.2.1 ∈ UU := inUU (by decide +kernel)
theorem f_RX11_29 : Cond.fieldLink RX11 29 (TX11 8).1 (TX11 8).2.1 (TX11 8).2.2.1 ∈ UU := inUU (by decide +kernel)
theorem f_RX11_32 : Cond.fieldLink RX11 32 (TX11 9).1 (TX11 9).2.1 (TX11 9).2.2.1 ∈ UU := inUU (by decide +kernel)
theorem f_RX11_35 : Cond.fieldLink RX11 35 (TX11 10).1 (TX11 10).2.1 (TX11 10).2.2.1 ∈ UU := inUU (by decide +kernel)
theorem f_RX11_38 : Cond.fieldLink RX11 38 (TX11 11).1 (TX11 11).2.1 (TX11 11).2.2.1 ∈ UU := inUU (by decide +kernel)
theorem f_RX11_41 : Cond.fieldLink RX11 41 (TX11 12).1 (TX11 12).2.1 (TX11 12).2.2.1 ∈ UU := inUU (by decide +kernel)
theorem f_RX11_44 : Cond.fieldLink RX11 44 (TX11 13).1 (TX11 13).2.1 (TX11 13).2.2.1 ∈ UU := inUU (by decide +kernel)
theorem f_RX11_47 : Cond.fieldLink RX11 47 (TX11 14).1 (TX11 14).2.1 (TX11 14).2.2.1 ∈ UU := inUU (by decide +kernel)
theorem f_RX11_50 : Cond.fieldLink RX11 50 (TX11 15).1 (TX11 15).2.1 (TX11 15).2.2.1 ∈ UU := inUU (by decide +kernel)
theorem f_RX11_53 : Cond.fieldLink RX11 53 (TX11 16).1 (TX11 16).2.1 (TX11 16).2.2.1 ∈ UU := inUU (by decide +kernel)
theorem f_RX11_56 : Cond.fieldLink RX11 56 (TX11 17).1 (TX11 17).2.1 (TX11 17).2.2.1 ∈ UU := inUU (by decide +kernel)
theorem f_RX11_60 : Cond.fieldLink RX11 60 (TX11 18).1 (TX11 18).2.1 (TX11 18).2.2.1 ∈ UU := inUU (by decide +kernel)
theorem f_RX11_63 : Cond.fieldLink RX11 63 (TX11 19).1 (TX11 19).2.1 (TX11 19).2.2.1 ∈ UU := inUU (by decide +kernel)
theorem f_RX11_66 : Cond.fieldLink RX11 66 (TX11 20).1 (TX11 20).2.1 (TX11 20).2.2.1 ∈ UU := inUU (by decide +kernel)
theorem f_RX11_69 : Cond.fieldLink RX11 69 (TX11 21).1 (TX11 21).2.1 (TX11 21).2.2.1 ∈ UU := inUU (by decide +kernel)
theorem f_RX11_7 : Cond.fieldLink RX11 7 (TX11 0).1 (TX11 0).2.1 (TX11 0).2.2.1 ∈ UU := inUU (by decide +kernel)
theorem f_RX1_12 : Cond.fieldLink RX1 12 (TX1 0).1 (TX1 0).2.1 (TX1 0).2.2.1 ∈ UU := inUU (by decide +kernel)
theorem f_RX1_21 : Cond.fieldLink RX1 21 (TX1 1).1 (TX1 1).2.1 (TX1 1).2.2.1 ∈ UU := inUU (by decide +kernel)
theorem f_RX1_28 : Cond.fieldLink RX1 28 (TX1 2).1 (TX1 2).2.1 (TX1 2).2.2.1 ∈ UU := inUU (by decide +kernel)
theorem f_RX1_32 : Cond.fieldLink RX1 32 (TX1 3).1 (TX1 3).2.1 (TX1 3).2.2.1 ∈ UU := inUU (by decide +kernel)
theorem f_RX2_21 : Cond.fieldLink RX2 21 (TX6 0).1 (TX6 0).2.1 (TX6 0).2.2.1 ∈ UU := inUU (by decide +kernel)
theorem f_RX2_9 : Cond.fieldLink RX2 9 (TX2 0).1 (TX2 0).2.1 (TX2 0).2.2.1 ∈ UU := inUU (by decide +kernel)
theorem f_RX3_15 : Cond.fieldLink RX3 15 (TX3 0).1 (TX3 0).2.1 (TX3 0).2.2.1 ∈ UU := inUU (by decide +kernel)
theorem f_RX3_9 : Cond.fieldLink RX3 9 (TX3 1).1 (TX3 1).2.1 (TX3 1).2.2.1 ∈ UU := inUU (by decide +kernel)
theorem f_RX4_15 : Cond.fieldLink RX4 15 (TX4 2).1 (TX4 2).2.1 (TX4 2).2.2.1 ∈ UU := inUU (by decide +kernel)
theorem f_RX4_18 : Cond.fieldLink RX4 18 (TX4 3).1 (TX4 3).2.1 (TX4 3).2.2.1 ∈ UU := inUU (by decide +kernel)
theorem f_RX4_21 : Cond.fieldLink RX4 21 (TX4 4).1 (TX4 4).2.1 (TX4 4).2.2.1 ∈ UU := inUU (by decide +kernel)
theorem f_RX4_24 : Cond.fieldLink RX4 24 (TX4 5).1 (TX4 5).2.1 (TX4 5).2.2.1 ∈ UU := inUU (by decide +kernel)
theorem f_RX4_27 : Cond.fieldLink RX4 27 (TX4 6).1 (TX4 6).2.1 (TX4 6).2.2.1 ∈ UU := inUU (by decide +kernel)
theorem f_RX4_34 : Cond.fieldLink RX4 34 (TX4 0).1 (TX4 0).2.1 (TX4 0).2.2.1 ∈ UU := inUU (by decide +kernel)
theorem f_RX4_52 : Cond.fieldLink RX4 52 (TX6 0).1 (TX6 0).2.1 (TX6 0).2.2.1 ∈ UU := inUU (by decide +kernel)
theorem f_RX4_67 : Cond.fieldLink RX4 67 (TX6 2).1 (TX6 2).2.1 (TX6 2).2.2.1 ∈ UU := inUU (by decide +kernel)
theorem f_RX4_9 : Cond.fieldLink RX4 9 (TX4 1).1 (TX4 1).2.1 (TX4 1).2.2.1 ∈ UU := inUU (by decide +kernel)
theorem f_RX5_15 : Cond.fieldLink RX5 15 (TX5 0).1 (TX5 0).2.1 (TX5 0).2.2.1 ∈ UU := inUU (by decide +kernel)
theorem f_RX5_9 : Cond.fieldLink RX5 9 (TX5 1).1 (TX5 1).2.1 (TX5 1).2.2.1 ∈ UU := inUU (by decide +kernel)
theorem f_RX6_15 : Cond.fieldLink RX6 15 (TX6 2).1 (TX6 2).2.1 (TX6 2).2.2.1 ∈ UU := inUU (by decide +kernel)
theorem f_RX6_18 : Cond.fieldLink RX6 18 (TX6 3).1 (TX6 3).2.1 (TX6 3).2.2.1 ∈ UU := inUU (by decide +kernel)
theorem f_RX6_22 : Cond.fieldLink RX6 22 (TX6 4).1 (TX6 4).2.1 (TX6 4).2.2.1 ∈ UU := inUU (by decide +kernel)
theorem f_RX6_25 : Cond.fieldLink RX6 25 (TX6 5).1 (TX6 5).2.1 (TX6 5).2.2.1 ∈ UU := inUU (by decide +kernel)
theorem f_RX6_28 : Cond.fieldLink RX6 28 (TX6 0).1 (TX6 0).2.1 (TX6 0).2.2.1 ∈ UU := inUU (by decide +kernel)
theorem f_RX6_37 : Cond.fieldLinkNest RX6 37 RX10 "FIRST_VALUES" "[I" RX10 ∈ nestW := nest_in (by decide +kernel)
theorem f_RX6_57 : Cond.fieldLink RX6 57 (TX7 2).1 (TX7 2).2.1 (TX7 2).2.2.1 ∈ UU := inUU (by decide +kernel)
theorem f_RX6_74 : Cond.fieldLinkNest RX6 74 RX10 "MOST_VALUES" "[I" RX10 ∈ nestW := nest_in (by decide +kernel)
theorem f_RX6_9 : Cond.fieldLink RX6 9 (TX6 1).1 (TX6 1).2.1 (TX6 1).2.2.1 ∈ UU := inUU (by decide +kernel)
theorem f_RX7_15 : Cond.fieldLink RX7 15 (TX7 2).1 (TX7 2).2.1 (TX7 2).2.2.1 ∈ UU := inUU (by decide +kernel)
theorem f_RX7_19 : Cond.fieldLink RX7 19 (TX7 1).1 (TX7 1).2.1 (TX7 1).2.2.1 ∈ UU := inUU (by decide +kernel)
theorem f_RX7_9 : Cond.fieldLink RX7 9 (TX7 0).1 (TX7 0).2.1 (TX7 0).2.2.1 ∈ UU := inUU (by decide +kernel)
theorem f_RX8_12 : Cond.fieldLink RX8 12 (TX8 1).1 (TX8 1).2.1 (TX8 1).2.2.1 ∈ UU := inUU (by decide +kernel)
theorem f_RX8_18 : Cond.fieldLink RX8 18 (TX8 2).1 (TX8 2).2.1 (TX8 2).2.2.1 ∈ UU := inUU (by decide +kernel)
theorem f_RX8_22 : Cond.fieldLink RX8 22 (TX8 0).1 (TX8 0).2.1 (TX8 0).2.2.1 ∈ UU := inUU (by decide +kernel)
theorem f_RX8_26 : Cond.fieldLink RX8 26 (TX5 0).1 (TX5 0).2.1 (TX5 0).2.2.1 ∈ UU := inUU (by decide +kernel)
theorem f_RX8_27 : Cond.fieldLink RX8 27 (TX8 3).1 (TX8 3).2.1 (TX8 3).2.2.1 ∈ UU := inUU (by decide +kernel)
theorem f_RX9_15 : Cond.fieldLink RX9 15 (TX9 1).1 (TX9 1).2.1 (TX9 1).2.2.1 ∈ UU := inUU (by decide +kernel)
theorem f_RX9_18 : Cond.fieldLink RX9 18 (TX6 0).1 (TX6 0).2.1 (TX6 0).2.2.1 ∈ UU := inUU (by decide +kernel)
theorem f_RX9_9 : Cond.fieldLink RX9 9 (TX9 0).1 (TX9 0).2.1 (TX9 0).2.2.1 ∈ UU := inUU (by decide +kernel)
theorem k_RX0_33 : lkV RX0 RX6 33 yX6_sings cX6_sings 2 (some .boolean) 1 := ⟨⟨inUU (by decide +kernel), inUU (by decide +kernel), inUU (by decide +kernel), inUU (by decide +kernel), inUU (by decide +kernel)⟩, by decide +kernel⟩
theorem k_RX0_37 : lkV RX0 RX6 37 yX6_between cX6_between 3 (some .int) 2 := ⟨⟨inUU (by decide +kernel), inUU (by decide +kernel), inUU (by decide +kernel), inUU (by decide +kernel), inUU (by decide +kernel)⟩, by decide +kernel⟩
theorem k_RX0_41 : lkV RX0 RX6 41 yX6_value cX6_value 3 (some .int) 2 := ⟨⟨inUU (by decide +kernel), inUU (by decide +kernel), inUU (by decide +kernel), inUU (by decide +kernel), inUU (by decide +kernel)⟩, by decide +kernel⟩
theorem k_RX0_44 : lkV RX0 RX0 44 yX0_timeAt cX0_timeAt 8 (some .int) 3 := ⟨⟨inUU (by decide +kernel), inUU (by decide +kernel), inUU (by decide +kernel), inUU (by decide +kernel), inUU (by decide +kernel)⟩, by decide +kernel⟩
theorem k_RX0_51 : lkV RX0 RX0 51 yX0_meanLag cX0_meanLag 6 (some .int) 2 := ⟨⟨inUU (by decide +kernel), inUU (by decide +kernel), inUU (by decide +kernel), inUU (by decide +kernel), inUU (by decide +kernel)⟩, by decide +kernel⟩
theorem k_RX0_54 : lkM RX0 54 Lib.Math.max.name Lib.Math.max.code 2 := ⟨inUU (by decide +kernel), inUU (by decide +kernel), inUU (by decide +kernel), inUU (by decide +kernel)⟩
theorem k_RX0_63 : lkM RX0 63 Lib.Math.min.name Lib.Math.min.code 2 := ⟨inUU (by decide +kernel), inUU (by decide +kernel), inUU (by decide +kernel), inUU (by decide +kernel)⟩
theorem k_RX10_101 : lkV RX10 RX7 101 yX7_refusal cX7_refusal 2 (some .int) 1 := ⟨⟨inUU (by decide +kernel), inUU (by decide +kernel), inUU (by decide +kernel), inUU (by decide +kernel), inUU (by decide +kernel)⟩, by decide +kernel⟩
theorem k_RX10_104 : lkV RX10 RX7 104 yX7_holds cX7_holds 3 (some .boolean) 2 := ⟨⟨inUU (by decide +kernel), inUU (by decide +kernel), inUU (by decide +kernel), inUU (by decide +kernel), inUU (by decide +kernel)⟩, by decide +kernel⟩
theorem k_RX10_107 : lkV RX10 RX6 107 yX6_canLayAll cX6_canLayAll 6 (some .boolean) 3 := ⟨⟨inUU (by decide +kernel), inUU (by decide +kernel), inUU (by decide +kernel), inUU (by decide +kernel), inUU (by decide +kernel)⟩, by decide +kernel⟩
theorem k_RX10_111 : lkV RX10 RX6 111 yX6_layAll cX6_layAll 6 (some .int) 3 := ⟨⟨inUU (by decide +kernel), inUU (by decide +kernel), inUU (by decide +kernel), inUU (by decide +kernel), inUU (by decide +kernel)⟩, by decide +kernel⟩
theorem k_RX10_119 : lkV RX10 RX6 119 yX6_sings cX6_sings 2 (some .boolean) 1 := ⟨⟨inUU (by decide +kernel), inUU (by decide +kernel), inUU (by decide +kernel), inUU (by decide +kernel), inUU (by decide +kernel)⟩, by decide +kernel⟩
theorem k_RX10_123 : lkV RX10 RX0 123 yX0_listen cX0_listen 4 none 1 := ⟨⟨inUU (by decide +kernel), inUU (by decide +kernel), inUU (by decide +kernel), inUU (by decide +kernel), inUU (by decide +kernel)⟩, by decide +kernel⟩
theorem k_RX10_127 : lkV RX10 RX0 127 yX0_singTo cX0_singTo 6 none 2 := ⟨⟨inUU (by decide +kernel), inUU (by decide +kernel), inUU (by decide +kernel), inUU (by decide +kernel), inUU (by decide +kernel)⟩, by decide +kernel⟩
theorem k_RX10_131 : lkV RX10 RX0 131 yX0_timeOf cX0_timeOf 2 (some .int) 1 := ⟨⟨inUU (by decide +kernel), inUU (by decide +kernel), inUU (by decide +kernel), inUU (by decide +kernel), inUU (by decide +kernel)⟩, by decide +kernel⟩
theorem k_RX10_134 : lkV RX10 RX6 134 yX6_singers cX6_singers 3 (some .int) 0 := ⟨⟨inUU (by decide +kernel), inUU (by decide +kernel), inUU (by decide +kernel), inUU (by decide +kernel), inUU (by decide +kernel)⟩, by decide +kernel⟩
theorem k_RX10_138 : lkV RX10 RX0 138 yX0_meanPace cX0_meanPace 5 (some .int) 1 := ⟨⟨inUU (by decide +kernel), inUU (by decide +kernel), inUU (by decide +kernel), inUU (by decide +kernel), inUU (by decide +kernel)⟩, by decide +kernel⟩
theorem k_RX10_143 : lkV RX10 RX0 143 yX0_stretchWires cX0_stretchWires 4 none 2 := ⟨⟨inUU (by decide +kernel), inUU (by decide +kernel), inUU (by decide +kernel), inUU (by decide +kernel), inUU (by decide +kernel)⟩, by decide +kernel⟩
theorem k_RX10_146 : lkV RX10 RX0 146 yX0_spread cX0_spread 5 (some .int) 1 := ⟨⟨inUU (by decide +kernel), inUU (by decide +kernel), inUU (by decide +kernel), inUU (by decide +kernel), inUU (by decide +kernel)⟩, by decide +kernel⟩
theorem k_RX10_149 : lkS RX10 149 yJ6_bitCount_0f7a4 cJ6_bitCount_0f7a4 1 (some .int) 1 := ⟨⟨inUU (by decide +kernel), inUU (by decide +kernel), inUU (by decide +kernel), inUU (by decide +kernel)⟩, by decide +kernel⟩
theorem k_RX10_154 : lkV RX10 RX6 154 yX6_wiresInAll cX6_wiresInAll 6 (some .int) 0 := ⟨⟨inUU (by decide +kernel), inUU (by decide +kernel), inUU (by decide +kernel), inUU (by decide +kernel), inUU (by decide +kernel)⟩, by decide +kernel⟩
theorem k_RX10_166 : lkV RX10 RX5 166 yX5_breaths cX5_breaths 3 (some .int) 0 := ⟨⟨inUU (by decide +kernel), inUU (by decide +kernel), inUU (by decide +kernel), inUU (by decide +kernel), inUU (by decide +kernel)⟩, by decide +kernel⟩
theorem k_RX10_176 : lkV RX10 RX6 176 yX6_isCut cX6_isCut 2 (some .boolean) 1 := ⟨⟨inUU (by decide +kernel), inUU (by decide +kernel), inUU (by decide +kernel), inUU (by decide +kernel), inUU (by decide +kernel)⟩, by decide +kernel⟩
theorem k_RX10_179 : lkV RX10 RX6 179 yX6_reachedByAll cX6_reachedByAll 4 (some .boolean) 2 := ⟨⟨inUU (by decide +kernel), inUU (by decide +kernel), inUU (by decide +kernel), inUU (by decide +kernel), inUU (by decide +kernel)⟩, by decide +kernel⟩
theorem k_RX10_182 : lkV RX10 RX6 182 yX6_longestWire cX6_longestWire 5 (some .int) 2 := ⟨⟨inUU (by decide +kernel), inUU (by decide +kernel), inUU (by decide +kernel), inUU (by decide +kernel), inUU (by decide +kernel)⟩, by decide +kernel⟩
theorem k_RX10_186 : lkV RX10 RX6 186 yX6_costOfHolding cX6_costOfHolding 6 (some .int) 3 := ⟨⟨inUU (by decide +kernel), inUU (by decide +kernel), inUU (by decide +kernel), inUU (by decide +kernel), inUU (by decide +kernel)⟩, by decide +kernel⟩
theorem k_RX10_189 : lkV RX10 RX6 189 yX6_all cX6_all 1 (some .int) 0 := ⟨⟨inUU (by decide +kernel), inUU (by decide +kernel), inUU (by decide +kernel), inUU (by decide +kernel), inUU (by decide +kernel)⟩, by decide +kernel⟩
theorem k_RX10_192 : lkV RX10 RX2 192 yX2_firstFailing cX2_firstFailing 6 (some .int) 2 := ⟨⟨inUU (by decide +kernel), inUU (by decide +kernel), inUU (by decide +kernel), inUU (by decide +kernel), inUU (by decide +kernel)⟩, by decide +kernel⟩
theorem k_RX10_196 : lkV RX10 RX2 196 yX2_leadOf cX2_leadOf 2 (some .int) 1 := ⟨⟨inUU (by decide +kernel), inUU (by decide +kernel), inUU (by decide +kernel), inUU (by decide +kernel), inUU (by decide +kernel)⟩, by decide +kernel⟩
theorem k_RX10_199 : lkS RX10 199 yX8_canStand cX8_canStand 5 (some .boolean) 2 := ⟨⟨inUU (by decide +kernel), inUU (by decide +kernel), inUU (by decide +kernel), inUU (by decide +kernel)⟩, by decide +kernel⟩
theorem k_RX10_204 : lkV RX10 RX8 204 yX8_append cX8_append 5 (some .int) 2 := ⟨⟨inUU (by decide +kernel), inUU (by decide +kernel), inUU (by decide +kernel), inUU (by decide +kernel), inUU (by decide +kernel)⟩, by decide +kernel⟩
theorem k_RX10_208 : lkV RX10 RX8 208 yX8_read cX8_read 2 (some .int) 0 := ⟨⟨inUU (by decide +kernel), inUU (by decide +kernel), inUU (by decide +kernel), inUU (by decide +kernel), inUU (by decide +kernel)⟩, by decide +kernel⟩
theorem k_RX10_214 : lkV RX10 RX5 214 yX5_take cX5_take 2 none 1 := ⟨⟨inUU (by decide +kernel), inUU (by decide +kernel), inUU (by decide +kernel), inUU (by decide +kernel), inUU (by decide +kernel)⟩, by decide +kernel⟩
theorem k_RX10_224 : lkV RX10 RX5 224 yX5_clashesAt cX5_clashesAt 7 (some .int) 2 := ⟨⟨inUU (by decide +kernel), inUU (by decide +kernel), inUU (by decide +kernel), inUU (by decide +kernel), inUU (by decide +kernel)⟩, by decide +kernel⟩
theorem k_RX10_228 : lkV RX10 RX6 228 yX6_loseWord cX6_loseWord 7 (some .int) 4 := ⟨⟨inUU (by decide +kernel), inUU (by decide +kernel), inUU (by decide +kernel), inUU (by decide +kernel), inUU (by decide +kernel)⟩, by decide +kernel⟩
theorem k_RX10_232 : lkV RX10 RX6 232 yX6_uncut cX6_uncut 3 (some .int) 0 := ⟨⟨inUU (by decide +kernel), inUU (by decide +kernel), inUU (by decide +kernel), inUU (by decide +kernel), inUU (by decide +kernel)⟩, by decide +kernel⟩
theorem k_RX10_235 : lkV RX10 RX9 235 yX9_tellFor cX9_tellFor 6 none 2 := ⟨⟨inUU (by decide +kernel), inUU (by decide +kernel), inUU (by decide +kernel), inUU (by decide +kernel), inUU (by decide +kernel)⟩, by decide +kernel⟩
theorem k_RX10_238 : lkV RX10 RX9 238 yX9_knownTo cX9_knownTo 2 (some .int) 1 := ⟨⟨inUU (by decide +kernel), inUU (by decide +kernel), inUU (by decide +kernel), inUU (by decide +kernel), inUU (by decide +kernel)⟩, by decide +kernel⟩
theorem k_RX10_241 : lkV RX10 RX6 241 yX6_leastBeat cX6_leastBeat 4 (some .int) 1 := ⟨⟨inUU (by decide +kernel), inUU (by decide +kernel), inUU (by decide +kernel), inUU (by decide +kernel), inUU (by decide +kernel)⟩, by decide +kernel⟩
theorem k_RX10_244 : lkV RX10 RX5 244 yX5_behindLastBreath cX5_behindLastBreath 3 (some .int) 1 := ⟨⟨inUU (by decide +kernel), inUU (by decide +kernel), inUU (by decide +kernel), inUU (by decide +kernel), inUU (by decide +kernel)⟩, by decide +kernel⟩
theorem k_RX10_249 : lkV RX10 RX3 249 yX3_add cX3_add 3 (some .int) 1 := ⟨⟨inUU (by decide +kernel), inUU (by decide +kernel), inUU (by decide +kernel), inUU (by decide +kernel), inUU (by decide +kernel)⟩, by decide +kernel⟩
theorem k_RX10_252 : lkV RX10 RX3 252 yX3_lostOf cX3_lostOf 9 (some .int) 2 := ⟨⟨inUU (by decide +kernel), inUU (by decide +kernel), inUU (by decide +kernel), inUU (by decide +kernel), inUU (by decide +kernel)⟩, by decide +kernel⟩
theorem k_RX10_255 : lkV RX10 RX3 255 yX3_losesNothing cX3_losesNothing 3 (some .boolean) 1 := ⟨⟨inUU (by decide +kernel), inUU (by decide +kernel), inUU (by decide +kernel), inUU (by decide +kernel), inUU (by decide +kernel)⟩, by decide +kernel⟩
theorem k_RX10_261 : lkV RX10 RX4 261 yX4_leastWait cX4_leastWait 6 (some .int) 1 := ⟨⟨inUU (by decide +kernel), inUU (by decide +kernel), inUU (by decide +kernel), inUU (by decide +kernel), inUU (by decide +kernel)⟩, by decide +kernel⟩
theorem k_RX10_267 : lkV RX10 RX7 267 yX7_renew cX7_renew 3 (some .int) 2 := ⟨⟨inUU (by decide +kernel), inUU (by decide +kernel), inUU (by decide +kernel), inUU (by decide +kernel), inUU (by decide +kernel)⟩, by decide +kernel⟩
theorem k_RX10_273 : lkV RX10 RX7 273 yX7_empty cX7_empty 1 (some .int) 0 := ⟨⟨inUU (by decide +kernel), inUU (by decide +kernel), inUU (by decide +kernel), inUU (by decide +kernel), inUU (by decide +kernel)⟩, by decide +kernel⟩
theorem k_RX10_276 : lkV RX10 RX7 276 yX7_put cX7_put 3 (some .int) 2 := ⟨⟨inUU (by decide +kernel), inUU (by decide +kernel), inUU (by decide +kernel), inUU (by decide +kernel), inUU (by decide +kernel)⟩, by decide +kernel⟩
theorem k_RX10_282 : lkC RX10 282 := ⟨inUU (by decide +kernel), inUU (by decide +kernel), inUU (by decide +kernel), inUU (by decide +kernel)⟩
theorem k_RX10_72 : lkV RX10 RX6 72 yX6_add cX6_add 3 (some .int) 1 := ⟨⟨inUU (by decide +kernel), inUU (by decide +kernel), inUU (by decide +kernel), inUU (by decide +kernel), inUU (by decide +kernel)⟩, by decide +kernel⟩
theorem k_RX10_76 : lkV RX10 RX6 76 yX6_has cX6_has 2 (some .boolean) 1 := ⟨⟨inUU (by decide +kernel), inUU (by decide +kernel), inUU (by decide +kernel), inUU (by decide +kernel), inUU (by decide +kernel)⟩, by decide +kernel⟩
theorem k_RX10_84 : lkV RX10 RX6 84 yX6_change cX6_change 5 (some .int) 3 := ⟨⟨inUU (by decide +kernel), inUU (by decide +kernel), inUU (by decide +kernel), inUU (by decide +kernel), inUU (by decide +kernel)⟩, by decide +kernel⟩
theorem k_RX10_88 : lkV RX10 RX6 88 yX6_hasTwo cX6_hasTwo 3 (some .boolean) 2 := ⟨⟨inUU (by decide +kernel), inUU (by decide +kernel), inUU (by decide +kernel), inUU (by decide +kernel), inUU (by decide +kernel)⟩, by decide +kernel⟩
theorem k_RX10_92 : lkV RX10 RX6 92 yX6_lay cX6_lay 5 (some .int) 3 := ⟨⟨inUU (by decide +kernel), inUU (by decide +kernel), inUU (by decide +kernel), inUU (by decide +kernel), inUU (by decide +kernel)⟩, by decide +kernel⟩
theorem k_RX10_95 : lkS RX10 95 yX10_isSheet cX10_isSheet 1 (some .boolean) 1 := ⟨⟨inUU (by decide +kernel), inUU (by decide +kernel), inUU (by decide +kernel), inUU (by decide +kernel)⟩, by decide +kernel⟩
theorem k_RX10_98 : lkS RX10 98 yX10_isLane cX10_isLane 1 (some .boolean) 1 := ⟨⟨inUU (by decide +kernel), inUU (by decide +kernel), inUU (by decide +kernel), inUU (by decide +kernel)⟩, by decide +kernel⟩
theorem k_RX11_102 : lkS RX11 102 yX11_isLane cX11_isLane 1 (some .boolean) 1 := ⟨⟨inUU (by decide +kernel), inUU (by decide +kernel), inUU (by decide +kernel), inUU (by decide +kernel)⟩, by decide +kernel⟩
theorem k_RX11_105 : lkV RX11 RX11 105 yX11_finds cX11_finds 5 (some .int) 4 := ⟨⟨inUU (by decide +kernel), inUU (by decide +kernel), inUU (by decide +kernel), inUU (by decide +kernel), inUU (by decide +kernel)⟩, by decide +kernel⟩
theorem k_RX11_111 : lkV RX11 RX11 111 yX11_sings cX11_sings 2 (some .boolean) 1 := ⟨⟨inUU (by decide +kernel), inUU (by decide +kernel), inUU (by decide +kernel), inUU (by decide +kernel), inUU (by decide +kernel)⟩, by decide +kernel⟩
theorem k_RX11_114 : lkV RX11 RX11 114 yX11_pull cX11_pull 9 (some .int) 3 := ⟨⟨inUU (by decide +kernel), inUU (by decide +kernel), inUU (by decide +kernel), inUU (by decide +kernel), inUU (by decide +kernel)⟩, by decide +kernel⟩
theorem k_RX11_122 : lkV RX11 RX11 122 yX11_laysBeats cX11_laysBeats 9 none 2 := ⟨⟨inUU (by decide +kernel), inUU (by decide +kernel), inUU (by decide +kernel), inUU (by decide +kernel), inUU (by decide +kernel)⟩, by decide +kernel⟩
theorem k_RX11_126 : lkV RX11 RX11 126 yX11_singers cX11_singers 3 (some .int) 0 := ⟨⟨inUU (by decide +kernel), inUU (by decide +kernel), inUU (by decide +kernel), inUU (by decide +kernel), inUU (by decide +kernel)⟩, by decide +kernel⟩
theorem k_RX11_129 : lkS RX11 129 yX11_size cX11_size 3 (some .int) 1 := ⟨⟨inUU (by decide +kernel), inUU (by decide +kernel), inUU (by decide +kernel), inUU (by decide +kernel)⟩, by decide +kernel⟩
theorem k_RX11_132 : lkV RX11 RX11 132 yX11_paceBy cX11_paceBy 6 (some .int) 2 := ⟨⟨inUU (by decide +kernel), inUU (by decide +kernel), inUU (by decide +kernel), inUU (by decide +kernel), inUU (by decide +kernel)⟩, by decide +kernel⟩
theorem k_RX11_137 : lkV RX11 RX11 137 yX11_isCut cX11_isCut 2 (some .boolean) 1 := ⟨⟨inUU (by decide +kernel), inUU (by decide +kernel), inUU (by decide +kernel), inUU (by decide +kernel), inUU (by decide +kernel)⟩, by decide +kernel⟩
theorem k_RX11_142 : lkV RX11 RX11 142 yX11_bars cX11_bars 10 (some .int) 2 := ⟨⟨inUU (by decide +kernel), inUU (by decide +kernel), inUU (by decide +kernel), inUU (by decide +kernel), inUU (by decide +kernel)⟩, by decide +kernel⟩
theorem k_RX11_158 : lkV RX11 RX11 158 yX11_next cX11_next 1 (some .int) 0 := ⟨⟨inUU (by decide +kernel), inUU (by decide +kernel), inUU (by decide +kernel), inUU (by decide +kernel), inUU (by decide +kernel)⟩, by decide +kernel⟩
theorem k_RX11_169 : lkV RX11 RX11 169 yX11_reads cX11_reads 8 (some .int) 2 := ⟨⟨inUU (by decide +kernel), inUU (by decide +kernel), inUU (by decide +kernel), inUU (by decide +kernel), inUU (by decide +kernel)⟩, by decide +kernel⟩
theorem k_RX11_174 : lkV RX11 RX11 174 yX11_clashesAt cX11_clashesAt 7 (some .int) 1 := ⟨⟨inUU (by decide +kernel), inUU (by decide +kernel), inUU (by decide +kernel), inUU (by decide +kernel), inUU (by decide +kernel)⟩, by decide +kernel⟩
theorem k_RX11_183 : lkV RX11 RX11 183 yX11_tells cX11_tells 6 none 1 := ⟨⟨inUU (by decide +kernel), inUU (by decide +kernel), inUU (by decide +kernel), inUU (by decide +kernel), inUU (by decide +kernel)⟩, by decide +kernel⟩
theorem k_RX11_191 : lkV RX11 RX11 191 yX11_lostBy cX11_lostBy 9 (some .int) 2 := ⟨⟨inUU (by decide +kernel), inUU (by decide +kernel), inUU (by decide +kernel), inUU (by decide +kernel), inUU (by decide +kernel)⟩, by decide +kernel⟩
theorem k_RX11_198 : lkV RX11 RX11 198 yX11_parts cX11_parts 6 (some .boolean) 1 := ⟨⟨inUU (by decide +kernel), inUU (by decide +kernel), inUU (by decide +kernel), inUU (by decide +kernel), inUU (by decide +kernel)⟩, by decide +kernel⟩
theorem k_RX11_201 : lkV RX11 RX11 201 yX11_waitOf cX11_waitOf 8 (some .int) 1 := ⟨⟨inUU (by decide +kernel), inUU (by decide +kernel), inUU (by decide +kernel), inUU (by decide +kernel), inUU (by decide +kernel)⟩, by decide +kernel⟩
theorem k_RX11_72 : lkS RX11 72 yX11_in cX11_in 6 (some .boolean) 3 := ⟨⟨inUU (by decide +kernel), inUU (by decide +kernel), inUU (by decide +kernel), inUU (by decide +kernel)⟩, by decide +kernel⟩
theorem k_RX11_76 : lkV RX11 RX11 76 yX11_of cX11_of 3 (some .int) 2 := ⟨⟨inUU (by decide +kernel), inUU (by decide +kernel), inUU (by decide +kernel), inUU (by decide +kernel), inUU (by decide +kernel)⟩, by decide +kernel⟩
theorem k_RX11_82 : lkV RX11 RX11 82 yX11_rooms cX11_rooms 1 (some .int) 0 := ⟨⟨inUU (by decide +kernel), inUU (by decide +kernel), inUU (by decide +kernel), inUU (by decide +kernel), inUU (by decide +kernel)⟩, by decide +kernel⟩
theorem k_RX11_86 : lkV RX11 RX11 86 yX11_isRoom cX11_isRoom 2 (some .boolean) 1 := ⟨⟨inUU (by decide +kernel), inUU (by decide +kernel), inUU (by decide +kernel), inUU (by decide +kernel), inUU (by decide +kernel)⟩, by decide +kernel⟩
theorem k_RX11_90 : lkS RX11 90 yX11_highest cX11_highest 1 (some .int) 1 := ⟨⟨inUU (by decide +kernel), inUU (by decide +kernel), inUU (by decide +kernel), inUU (by decide +kernel)⟩, by decide +kernel⟩
theorem k_RX11_96 : lkV RX11 RX11 96 yX11_wireOf cX11_wireOf 3 (some .int) 2 := ⟨⟨inUU (by decide +kernel), inUU (by decide +kernel), inUU (by decide +kernel), inUU (by decide +kernel), inUU (by decide +kernel)⟩, by decide +kernel⟩
theorem k_RX11_99 : lkS RX11 99 yX11_isSheet cX11_isSheet 1 (some .boolean) 1 := ⟨⟨inUU (by decide +kernel), inUU (by decide +kernel), inUU (by decide +kernel), inUU (by decide +kernel)⟩, by decide +kernel⟩
theorem k_RX1_36 : lkV RX1 RX6 36 yX6_take cX6_take 2 none 1 := ⟨⟨inUU (by decide +kernel), inUU (by decide +kernel), inUU (by decide +kernel), inUU (by decide +kernel), inUU (by decide +kernel)⟩, by decide +kernel⟩
theorem k_RX1_40 : lkV RX1 RX5 40 yX5_take cX5_take 2 none 1 := ⟨⟨inUU (by decide +kernel), inUU (by decide +kernel), inUU (by decide +kernel), inUU (by decide +kernel), inUU (by decide +kernel)⟩, by decide +kernel⟩
theorem k_RX1_43 : lkV RX1 RX3 43 yX3_take cX3_take 2 none 1 := ⟨⟨inUU (by decide +kernel), inUU (by decide +kernel), inUU (by decide +kernel), inUU (by decide +kernel), inUU (by decide +kernel)⟩, by decide +kernel⟩
theorem k_RX2_15 : lkV RX2 RX6 15 yX6_singers cX6_singers 3 (some .int) 0 := ⟨⟨inUU (by decide +kernel), inUU (by decide +kernel), inUU (by decide +kernel), inUU (by decide +kernel), inUU (by decide +kernel)⟩, by decide +kernel⟩
theorem k_RX2_25 : lkV RX2 RX6 25 yX6_isCut cX6_isCut 2 (some .boolean) 1 := ⟨⟨inUU (by decide +kernel), inUU (by decide +kernel), inUU (by decide +kernel), inUU (by decide +kernel), inUU (by decide +kernel)⟩, by decide +kernel⟩
theorem k_RX2_29 : lkV RX2 RX6 29 yX6_reachedByAll cX6_reachedByAll 4 (some .boolean) 2 := ⟨⟨inUU (by decide +kernel), inUU (by decide +kernel), inUU (by decide +kernel), inUU (by decide +kernel), inUU (by decide +kernel)⟩, by decide +kernel⟩
theorem k_RX2_33 : lkV RX2 RX2 33 yX2_lead cX2_lead 6 none 3 := ⟨⟨inUU (by decide +kernel), inUU (by decide +kernel), inUU (by decide +kernel), inUU (by decide +kernel), inUU (by decide +kernel)⟩, by decide +kernel⟩
theorem k_RX2_37 : lkV RX2 RX2 37 yX2_agrees cX2_agrees 6 (some .boolean) 3 := ⟨⟨inUU (by decide +kernel), inUU (by decide +kernel), inUU (by decide +kernel), inUU (by decide +kernel), inUU (by decide +kernel)⟩, by decide +kernel⟩
theorem k_RX2_41 : lkV RX2 RX6 41 yX6_shortestWire cX6_shortestWire 5 (some .int) 2 := ⟨⟨inUU (by decide +kernel), inUU (by decide +kernel), inUU (by decide +kernel), inUU (by decide +kernel), inUU (by decide +kernel)⟩, by decide +kernel⟩
theorem k_RX2_45 : lkV RX2 RX6 45 yX6_between cX6_between 3 (some .int) 2 := ⟨⟨inUU (by decide +kernel), inUU (by decide +kernel), inUU (by decide +kernel), inUU (by decide +kernel), inUU (by decide +kernel)⟩, by decide +kernel⟩
theorem k_RX3_19 : lkC RX3 19 := ⟨inUU (by decide +kernel), inUU (by decide +kernel), inUU (by decide +kernel), inUU (by decide +kernel)⟩
theorem k_RX3_25 : lkM RX3 25 Lib.Math.min.name Lib.Math.min.code 2 := ⟨inUU (by decide +kernel), inUU (by decide +kernel), inUU (by decide +kernel), inUU (by decide +kernel)⟩
theorem k_RX3_31 : lkS RX3 31 yJ6_bitCount_0f7a4 cJ6_bitCount_0f7a4 1 (some .int) 1 := ⟨⟨inUU (by decide +kernel), inUU (by decide +kernel), inUU (by decide +kernel), inUU (by decide +kernel)⟩, by decide +kernel⟩
theorem k_RX3_37 : lkV RX3 RX3 37 yX3_lostOf cX3_lostOf 9 (some .int) 2 := ⟨⟨inUU (by decide +kernel), inUU (by decide +kernel), inUU (by decide +kernel), inUU (by decide +kernel), inUU (by decide +kernel)⟩, by decide +kernel⟩
theorem k_RX4_30 : lkV RX4 RX4 30 yX4_gather cX4_gather 3 none 1 := ⟨⟨inUU (by decide +kernel), inUU (by decide +kernel), inUU (by decide +kernel), inUU (by decide +kernel), inUU (by decide +kernel)⟩, by decide +kernel⟩
theorem k_RX4_38 : lkV RX4 RX4 38 yX4_decode cX4_decode 5 (some .boolean) 2 := ⟨⟨inUU (by decide +kernel), inUU (by decide +kernel), inUU (by decide +kernel), inUU (by decide +kernel), inUU (by decide +kernel)⟩, by decide +kernel⟩
theorem k_RX4_42 : lkV RX4 RX4 42 yX4_greatestWait cX4_greatestWait 5 (some .int) 1 := ⟨⟨inUU (by decide +kernel), inUU (by decide +kernel), inUU (by decide +kernel), inUU (by decide +kernel), inUU (by decide +kernel)⟩, by decide +kernel⟩
theorem k_RX4_46 : lkM RX4 46 Lib.Math.min.name Lib.Math.min.code 2 := ⟨inUU (by decide +kernel), inUU (by decide +kernel), inUU (by decide +kernel), inUU (by decide +kernel)⟩
theorem k_RX4_57 : lkV RX4 RX6 57 yX6_isCut cX6_isCut 2 (some .boolean) 1 := ⟨⟨inUU (by decide +kernel), inUU (by decide +kernel), inUU (by decide +kernel), inUU (by decide +kernel), inUU (by decide +kernel)⟩, by decide +kernel⟩
theorem k_RX4_61 : lkS RX4 61 yJ7_fill_53178 cJ7_fill_53178 4 none 2 := ⟨⟨inUU (by decide +kernel), inUU (by decide +kernel), inUU (by decide +kernel), inUU (by decide +kernel)⟩, by decide +kernel⟩
theorem k_RX4_70 : lkV RX4 RX4 70 yX4_takeLeaf cX4_takeLeaf 2 (some .int) 0 := ⟨⟨inUU (by decide +kernel), inUU (by decide +kernel), inUU (by decide +kernel), inUU (by decide +kernel), inUU (by decide +kernel)⟩, by decide +kernel⟩
theorem k_RX4_74 : lkV RX4 RX4 74 yX4_blinksOf cX4_blinksOf 4 (some .int) 3 := ⟨⟨inUU (by decide +kernel), inUU (by decide +kernel), inUU (by decide +kernel), inUU (by decide +kernel), inUU (by decide +kernel)⟩, by decide +kernel⟩
theorem k_RX4_78 : lkV RX4 RX6 78 yX6_between cX6_between 3 (some .int) 2 := ⟨⟨inUU (by decide +kernel), inUU (by decide +kernel), inUU (by decide +kernel), inUU (by decide +kernel), inUU (by decide +kernel)⟩, by decide +kernel⟩
theorem k_RX4_81 : lkV RX4 RX4 81 yX4_join cX4_join 10 (some .int) 4 := ⟨⟨inUU (by decide +kernel), inUU (by decide +kernel), inUU (by decide +kernel), inUU (by decide +kernel), inUU (by decide +kernel)⟩, by decide +kernel⟩
theorem k_RX4_85 : lkM RX4 85 Lib.Math.max.name Lib.Math.max.code 2 := ⟨inUU (by decide +kernel), inUU (by decide +kernel), inUU (by decide +kernel), inUU (by decide +kernel)⟩
theorem k_RX5_19 : lkC RX5 19 := ⟨inUU (by decide +kernel), inUU (by decide +kernel), inUU (by decide +kernel), inUU (by decide +kernel)⟩
theorem k_RX5_25 : lkM RX5 25 Lib.Math.min.name Lib.Math.min.code 2 := ⟨inUU (by decide +kernel), inUU (by decide +kernel), inUU (by decide +kernel), inUU (by decide +kernel)⟩
theorem k_RX5_31 : lkM RX5 31 Lib.Math.abs.name Lib.Math.abs.code 1 := ⟨inUU (by decide +kernel), inUU (by decide +kernel), inUU (by decide +kernel), inUU (by decide +kernel)⟩
theorem k_RX6_31 : lkC RX6 31 := ⟨inUU (by decide +kernel), inUU (by decide +kernel), inUU (by decide +kernel), inUU (by decide +kernel)⟩
theorem k_RX6_40 : lkV RX6 RX6 40 yX6_has cX6_has 2 (some .boolean) 1 := ⟨⟨inUU (by decide +kernel), inUU (by decide +kernel), inUU (by decide +kernel), inUU (by decide +kernel), inUU (by decide +kernel)⟩, by decide +kernel⟩
theorem k_RX6_44 : lkV RX6 RX6 44 yX6_value cX6_value 3 (some .int) 2 := ⟨⟨inUU (by decide +kernel), inUU (by decide +kernel), inUU (by decide +kernel), inUU (by decide +kernel), inUU (by decide +kernel)⟩, by decide +kernel⟩
theorem k_RX6_48 : lkV RX6 RX6 48 yX6_sings cX6_sings 2 (some .boolean) 1 := ⟨⟨inUU (by decide +kernel), inUU (by decide +kernel), inUU (by decide +kernel), inUU (by decide +kernel), inUU (by decide +kernel)⟩, by decide +kernel⟩
theorem k_RX6_51 : lkV RX6 RX6 51 yX6_isCut cX6_isCut 2 (some .boolean) 1 := ⟨⟨inUU (by decide +kernel), inUU (by decide +kernel), inUU (by decide +kernel), inUU (by decide +kernel), inUU (by decide +kernel)⟩, by decide +kernel⟩
theorem k_RX6_54 : lkV RX6 RX6 54 yX6_between cX6_between 3 (some .int) 2 := ⟨⟨inUU (by decide +kernel), inUU (by decide +kernel), inUU (by decide +kernel), inUU (by decide +kernel), inUU (by decide +kernel)⟩, by decide +kernel⟩
theorem k_RX6_62 : lkV RX6 RX6 62 yX6_lay cX6_lay 5 (some .int) 3 := ⟨⟨inUU (by decide +kernel), inUU (by decide +kernel), inUU (by decide +kernel), inUU (by decide +kernel), inUU (by decide +kernel)⟩, by decide +kernel⟩
theorem k_RX6_66 : lkM RX6 66 Lib.Math.max.name Lib.Math.max.code 2 := ⟨inUU (by decide +kernel), inUU (by decide +kernel), inUU (by decide +kernel), inUU (by decide +kernel)⟩
theorem k_RX6_71 : lkM RX6 71 Lib.Math.min.name Lib.Math.min.code 2 := ⟨inUU (by decide +kernel), inUU (by decide +kernel), inUU (by decide +kernel), inUU (by decide +kernel)⟩
theorem k_RX6_77 : lkV RX6 RX6 77 yX6_losesWord cX6_losesWord 4 (some .boolean) 3 := ⟨⟨inUU (by decide +kernel), inUU (by decide +kernel), inUU (by decide +kernel), inUU (by decide +kernel), inUU (by decide +kernel)⟩, by decide +kernel⟩
theorem k_RX7_22 : lkS RX7 22 yJ7_fill_53178 cJ7_fill_53178 4 none 2 := ⟨⟨inUU (by decide +kernel), inUU (by decide +kernel), inUU (by decide +kernel), inUU (by decide +kernel)⟩, by decide +kernel⟩
theorem k_RX8_30 : lkV RX8 RX8 30 yX8_peek cX8_peek 1 (some .int) 0 := ⟨⟨inUU (by decide +kernel), inUU (by decide +kernel), inUU (by decide +kernel), inUU (by decide +kernel), inUU (by decide +kernel)⟩, by decide +kernel⟩
theorem k_RX8_34 : lkV RX8 RX8 34 yX8_readSound cX8_readSound 7 (some .boolean) 1 := ⟨⟨inUU (by decide +kernel), inUU (by decide +kernel), inUU (by decide +kernel), inUU (by decide +kernel), inUU (by decide +kernel)⟩, by decide +kernel⟩
theorem k_RX8_38 : lkV RX8 RX5 38 yX5_append cX5_append 5 none 3 := ⟨⟨inUU (by decide +kernel), inUU (by decide +kernel), inUU (by decide +kernel), inUU (by decide +kernel), inUU (by decide +kernel)⟩, by decide +kernel⟩
theorem k_RX9_24 : lkV RX9 RX9 24 yX9_toldTo cX9_toldTo 7 (some .int) 3 := ⟨⟨inUU (by decide +kernel), inUU (by decide +kernel), inUU (by decide +kernel), inUU (by decide +kernel), inUU (by decide +kernel)⟩, by decide +kernel⟩
theorem k_RX9_28 : lkV RX9 RX6 28 yX6_isCut cX6_isCut 2 (some .boolean) 1 := ⟨⟨inUU (by decide +kernel), inUU (by decide +kernel), inUU (by decide +kernel), inUU (by decide +kernel), inUU (by decide +kernel)⟩, by decide +kernel⟩
theorem k_RX9_32 : lkV RX9 RX6 32 yX6_between cX6_between 3 (some .int) 2 := ⟨⟨inUU (by decide +kernel), inUU (by decide +kernel), inUU (by decide +kernel), inUU (by decide +kernel), inUU (by decide +kernel)⟩, by decide +kernel⟩
theorem k_RX9_36 : lkV RX9 RX6 36 yX6_losesWord cX6_losesWord 4 (some .boolean) 3 := ⟨⟨inUU (by decide +kernel), inUU (by decide +kernel), inUU (by decide +kernel), inUU (by decide +kernel), inUU (by decide +kernel)⟩, by decide +kernel⟩
theorem q_RJ6_265 : Cond.constant RJ6 265 (1431655765) ∈ UU := inUU (by decide +kernel)
theorem q_RJ6_266 : Cond.constant RJ6 266 (858993459) ∈ UU := inUU (by decide +kernel)
theorem q_RJ6_267 : Cond.constant RJ6 267 (252645135) ∈ UU := inUU (by decide +kernel)
theorem q_RX0_61 : Cond.constant RX0 61 (2147483647) ∈ UU := inUU (by decide +kernel)
theorem q_RX0_62 : Cond.constant RX0 62 (-2147483648) ∈ UU := inUU (by decide +kernel)
theorem q_RX10_118 : Cond.constant RX10 118 (-1000001) ∈ UU := inUU (by decide +kernel)
theorem q_RX10_122 : Cond.constant RX10 122 (-1000004) ∈ UU := inUU (by decide +kernel)
theorem q_RX10_142 : Cond.constant RX10 142 (99999) ∈ UU := inUU (by decide +kernel)
theorem q_RX10_227 : Cond.constant RX10 227 (40000) ∈ UU := inUU (by decide +kernel)
theorem q_RX10_247 : Cond.constantLong RX10 247 (-281474976710656) ∈ UU := inUU (by decide +kernel)
theorem q_RX11_109 : Cond.constantLong RX11 109 (2000) ∈ UU := inUU (by decide +kernel)
theorem q_RX11_118 : Cond.constantLong RX11 118 (40) ∈ UU := inUU (by decide +kernel)
theorem q_RX11_120 : Cond.constant RX11 120 (-1000001) ∈ UU := inUU (by decide +kernel)
theorem q_RX11_121 : Cond.constant RX11 121 (-1000004) ∈ UU := inUU (by decide +kernel)
theorem q_RX11_135 : Cond.constantLong RX11 135 (99999) ∈ UU := inUU (by decide +kernel)
theorem q_RX11_140 : Cond.constantLong RX11 140 (8) ∈ UU := inUU (by decide +kernel)
theorem q_RX11_145 : Cond.constantLong RX11 145 (255) ∈ UU := inUU (by decide +kernel)
theorem q_RX11_147 : Cond.constantLong RX11 147 (32) ∈ UU := inUU (by decide +kernel)
theorem q_RX11_149 : Cond.constantLong RX11 149 (126) ∈ UU := inUU (by decide +kernel)
theorem q_RX11_161 : Cond.constantLong RX11 161 (97) ∈ UU := inUU (by decide +kernel)
theorem q_RX11_163 : Cond.constantLong RX11 163 (103) ∈ UU := inUU (by decide +kernel)
theorem q_RX11_165 : Cond.constantLong RX11 165 (49) ∈ UU := inUU (by decide +kernel)
theorem q_RX11_167 : Cond.constantLong RX11 167 (57) ∈ UU := inUU (by decide +kernel)
theorem q_RX11_172 : Cond.constantLong RX11 172 (127) ∈ UU := inUU (by decide +kernel)
theorem q_RX11_177 : Cond.constantLong RX11 177 (63) ∈ UU := inUU (by decide +kernel)
theorem q_RX11_179 : Cond.constantLong RX11 179 (40000) ∈ UU := inUU (by decide +kernel)
theorem q_RX11_181 : Cond.constantLong RX11 181 (7) ∈ UU := inUU (by decide +kernel)
theorem q_RX11_187 : Cond.constantLong RX11 187 (281474976710655) ∈ UU := inUU (by decide +kernel)
theorem q_RX11_189 : Cond.constantLong RX11 189 (12) ∈ UU := inUU (by decide +kernel)
theorem q_RX11_194 : Cond.constantLong RX11 194 (2) ∈ UU := inUU (by decide +kernel)
theorem q_RX11_196 : Cond.constantLong RX11 196 (6) ∈ UU := inUU (by decide +kernel)
theorem q_RX11_204 : Cond.constantLong RX11 204 (3) ∈ UU := inUU (by decide +kernel)
theorem q_RX11_80 : Cond.constantLong RX11 80 (5) ∈ UU := inUU (by decide +kernel)
theorem q_RX11_94 : Cond.constantLong RX11 94 (400) ∈ UU := inUU (by decide +kernel)
end
section
theorem dX0_init_0 : decode cX0_init 0 = .ok (.aload_n 0, 1) := by decide +kernel
theorem dX0_init_1 : decode cX0_init 1 = .ok (.invokespecial 3, 3) := by decide +kernel
theorem dX0_init_4 : decode cX0_init 4 = .ok (.aload_n 0, 1) := by decide +kernel
theorem dX0_init_5 : decode cX0_init 5 = .ok (.bipush 8, 2) := by decide +kernel
theorem dX0_init_7 : decode cX0_init 7 = .ok (.newarray .int, 2) := by decide +kernel
theorem dX0_init_9 : decode cX0_init 9 = .ok (.putfield 9, 3) := by decide +kernel
theorem dX0_init_12 : decode cX0_init 12 = .ok (.aload_n 0, 1) := by decide +kernel
theorem dX0_init_13 : decode cX0_init 13 = .ok (.bipush 8, 2) := by decide +kernel
theorem dX0_init_15 : decode cX0_init 15 = .ok (.newarray .int, 2) := by decide +kernel
theorem dX0_init_17 : decode cX0_init 17 = .ok (.putfield 15, 3) := by decide +kernel
theorem dX0_init_20 : decode cX0_init 20 = .ok (.aload_n 0, 1) := by decide +kernel
theorem dX0_init_21 : decode cX0_init 21 = .ok (.bipush 64, 2) := by decide +kernel
theorem dX0_init_23 : decode cX0_init 23 = .ok (.newarray .int, 2) := by decide +kernel
theorem dX0_init_25 : decode cX0_init 25 = .ok (.putfield 18, 3) := by decide +kernel
theorem dX0_init_28 : decode cX0_init 28 = .ok (.aload_n 0, 1) := by decide +kernel
theorem dX0_init_29 : decode cX0_init 29 = .ok (.bipush 8, 2) := by decide +kernel
theorem dX0_init_31 : decode cX0_init 31 = .ok (.newarray .int, 2) := by decide +kernel
theorem dX0_init_33 : decode cX0_init 33 = .ok (.putfield 21, 3) := by decide +kernel
theorem dX0_init_36 : decode cX0_init 36 = .ok (.aload_n 0, 1) := by decide +kernel
theorem dX0_init_37 : decode cX0_init 37 = .ok (.bipush 8, 2) := by decide +kernel
theorem dX0_init_39 : decode cX0_init 39 = .ok (.newarray .int, 2) := by decide +kernel
theorem dX0_init_41 : decode cX0_init 41 = .ok (.putfield 24, 3) := by decide +kernel
theorem dX0_init_44 : decode cX0_init 44 = .ok (.return_, 1) := by decide +kernel
theorem dX0_listen_0 : decode cX0_listen 0 = .ok (.iconst 0, 1) := by decide +kernel
theorem dX0_listen_1 : decode cX0_listen 1 = .ok (.istore_n 2, 1) := by decide +kernel
theorem dX0_listen_2 : decode cX0_listen 2 = .ok (.iload_n 2, 1) := by decide +kernel
theorem dX0_listen_3 : decode cX0_listen 3 = .ok (.aload_n 1, 1) := by decide +kernel
theorem dX0_listen_4 : decode cX0_listen 4 = .ok (.getfield 27, 3) := by decide +kernel
theorem dX0_listen_7 : decode cX0_listen 7 = .ok (.if_icmp .ge 98, 3) := by decide +kernel
theorem dX0_listen_10 : decode cX0_listen 10 = .ok (.aload_n 0, 1) := by decide +kernel
theorem dX0_listen_11 : decode cX0_listen 11 = .ok (.getfield 21, 3) := by decide +kernel
theorem dX0_listen_14 : decode cX0_listen 14 = .ok (.iload_n 2, 1) := by decide +kernel
theorem dX0_listen_15 : decode cX0_listen 15 = .ok (.iconst 0, 1) := by decide +kernel
theorem dX0_listen_16 : decode cX0_listen 16 = .ok (.iastore, 1) := by decide +kernel
theorem dX0_listen_17 : decode cX0_listen 17 = .ok (.aload_n 0, 1) := by decide +kernel
theorem dX0_listen_18 : decode cX0_listen 18 = .ok (.getfield 24, 3) := by decide +kernel
theorem dX0_listen_21 : decode cX0_listen 21 = .ok (.iload_n 2, 1) := by decide +kernel
theorem dX0_listen_22 : decode cX0_listen 22 = .ok (.iconst 0, 1) := by decide +kernel
theorem dX0_listen_23 : decode cX0_listen 23 = .ok (.iastore, 1) := by decide +kernel
theorem dX0_listen_24 : decode cX0_listen 24 = .ok (.iconst 0, 1) := by decide +kernel
theorem dX0_listen_25 : decode cX0_listen 25 = .ok (.istore_n 3, 1) := by decide +kernel
theorem dX0_listen_26 : decode cX0_listen 26 = .ok (.iload_n 3, 1) := by decide +kernel
theorem dX0_listen_27 : decode cX0_listen 27 = .ok (.aload_n 1, 1) := by decide +kernel
theorem dX0_listen_28 : decode cX0_listen 28 = .ok (.getfield 27, 3) := by decide +kernel
theorem dX0_listen_31 : decode cX0_listen 31 = .ok (.if_icmp .ge 68, 3) := by decide +kernel
theorem dX0_listen_34 : decode cX0_listen 34 = .ok (.aload_n 1, 1) := by decide +kernel
theorem dX0_listen_35 : decode cX0_listen 35 = .ok (.iload_n 3, 1) := by decide +kernel
theorem dX0_listen_36 : decode cX0_listen 36 = .ok (.invokevirtual 33, 3) := by decide +kernel
theorem dX0_listen_39 : decode cX0_listen 39 = .ok (.ifCond .eq 54, 3) := by decide +kernel
theorem dX0_listen_42 : decode cX0_listen 42 = .ok (.aload_n 1, 1) := by decide +kernel
theorem dX0_listen_43 : decode cX0_listen 43 = .ok (.iload_n 3, 1) := by decide +kernel
theorem dX0_listen_44 : decode cX0_listen 44 = .ok (.iload_n 2, 1) := by decide +kernel
theorem dX0_listen_45 : decode cX0_listen 45 = .ok (.invokevirtual 37, 3) := by decide +kernel
theorem dX0_listen_48 : decode cX0_listen 48 = .ok (.ifCond .le 45, 3) := by decide +kernel
theorem dX0_listen_51 : decode cX0_listen 51 = .ok (.aload_n 0, 1) := by decide +kernel
theorem dX0_listen_52 : decode cX0_listen 52 = .ok (.getfield 18, 3) := by decide +kernel
theorem dX0_listen_55 : decode cX0_listen 55 = .ok (.iload_n 2, 1) := by decide +kernel
theorem dX0_listen_56 : decode cX0_listen 56 = .ok (.bipush 8, 2) := by decide +kernel
theorem dX0_listen_58 : decode cX0_listen 58 = .ok (.imul, 1) := by decide +kernel
theorem dX0_listen_59 : decode cX0_listen 59 = .ok (.aload_n 0, 1) := by decide +kernel
theorem dX0_listen_60 : decode cX0_listen 60 = .ok (.getfield 21, 3) := by decide +kernel
theorem dX0_listen_63 : decode cX0_listen 63 = .ok (.iload_n 2, 1) := by decide +kernel
theorem dX0_listen_64 : decode cX0_listen 64 = .ok (.iaload, 1) := by decide +kernel
theorem dX0_listen_65 : decode cX0_listen 65 = .ok (.iadd, 1) := by decide +kernel
theorem dX0_listen_66 : decode cX0_listen 66 = .ok (.iload_n 3, 1) := by decide +kernel
theorem dX0_listen_67 : decode cX0_listen 67 = .ok (.iastore, 1) := by decide +kernel
theorem dX0_listen_68 : decode cX0_listen 68 = .ok (.aload_n 0, 1) := by decide +kernel
theorem dX0_listen_69 : decode cX0_listen 69 = .ok (.getfield 21, 3) := by decide +kernel
theorem dX0_listen_72 : decode cX0_listen 72 = .ok (.iload_n 2, 1) := by decide +kernel
theorem dX0_listen_73 : decode cX0_listen 73 = .ok (.dup2, 1) := by decide +kernel
theorem dX0_listen_74 : decode cX0_listen 74 = .ok (.iaload, 1) := by decide +kernel
theorem dX0_listen_75 : decode cX0_listen 75 = .ok (.iconst 1, 1) := by decide +kernel
theorem dX0_listen_76 : decode cX0_listen 76 = .ok (.iadd, 1) := by decide +kernel
theorem dX0_listen_77 : decode cX0_listen 77 = .ok (.iastore, 1) := by decide +kernel
theorem dX0_listen_78 : decode cX0_listen 78 = .ok (.aload_n 0, 1) := by decide +kernel
theorem dX0_listen_79 : decode cX0_listen 79 = .ok (.getfield 24, 3) := by decide +kernel
theorem dX0_listen_82 : decode cX0_listen 82 = .ok (.iload_n 2, 1) := by decide +kernel
theorem dX0_listen_83 : decode cX0_listen 83 = .ok (.dup2, 1) := by decide +kernel
theorem dX0_listen_84 : decode cX0_listen 84 = .ok (.iaload, 1) := by decide +kernel
theorem dX0_listen_85 : decode cX0_listen 85 = .ok (.aload_n 1, 1) := by decide +kernel
theorem dX0_listen_86 : decode cX0_listen 86 = .ok (.iload_n 3, 1) := by decide +kernel
theorem dX0_listen_87 : decode cX0_listen 87 = .ok (.iload_n 2, 1) := by decide +kernel
theorem dX0_listen_88 : decode cX0_listen 88 = .ok (.invokevirtual 37, 3) := by decide +kernel
theorem dX0_listen_91 : decode cX0_listen 91 = .ok (.iadd, 1) := by decide +kernel
theorem dX0_listen_92 : decode cX0_listen 92 = .ok (.iastore, 1) := by decide +kernel
theorem dX0_listen_93 : decode cX0_listen 93 = .ok (.iinc 3 1, 3) := by decide +kernel
theorem dX0_listen_96 : decode cX0_listen 96 = .ok (.goto (-70), 3) := by decide +kernel
theorem dX0_listen_99 : decode cX0_listen 99 = .ok (.iinc 2 1, 3) := by decide +kernel
theorem dX0_listen_102 : decode cX0_listen 102 = .ok (.goto (-100), 3) := by decide +kernel
theorem dX0_listen_105 : decode cX0_listen 105 = .ok (.return_, 1) := by decide +kernel
theorem dX0_stretchWires_0 : decode cX0_stretchWires 0 = .ok (.iconst 0, 1) := by decide +kernel
theorem dX0_stretchWires_1 : decode cX0_stretchWires 1 = .ok (.istore_n 3, 1) := by decide +kernel
theorem dX0_stretchWires_2 : decode cX0_stretchWires 2 = .ok (.iload_n 3, 1) := by decide +kernel
theorem dX0_stretchWires_3 : decode cX0_stretchWires 3 = .ok (.aload_n 1, 1) := by decide +kernel
theorem dX0_stretchWires_4 : decode cX0_stretchWires 4 = .ok (.getfield 27, 3) := by decide +kernel
theorem dX0_stretchWires_7 : decode cX0_stretchWires 7 = .ok (.if_icmp .ge 23, 3) := by decide +kernel
theorem dX0_stretchWires_10 : decode cX0_stretchWires 10 = .ok (.aload_n 0, 1) := by decide +kernel
theorem dX0_stretchWires_11 : decode cX0_stretchWires 11 = .ok (.getfield 24, 3) := by decide +kernel
theorem dX0_stretchWires_14 : decode cX0_stretchWires 14 = .ok (.iload_n 3, 1) := by decide +kernel
theorem dX0_stretchWires_15 : decode cX0_stretchWires 15 = .ok (.aload_n 0, 1) := by decide +kernel
theorem dX0_stretchWires_16 : decode cX0_stretchWires 16 = .ok (.getfield 21, 3) := by decide +kernel
theorem dX0_stretchWires_19 : decode cX0_stretchWires 19 = .ok (.iload_n 3, 1) := by decide +kernel
theorem dX0_stretchWires_20 : decode cX0_stretchWires 20 = .ok (.iaload, 1) := by decide +kernel
theorem dX0_stretchWires_21 : decode cX0_stretchWires 21 = .ok (.iload_n 2, 1) := by decide +kernel
theorem dX0_stretchWires_22 : decode cX0_stretchWires 22 = .ok (.imul, 1) := by decide +kernel
theorem dX0_stretchWires_23 : decode cX0_stretchWires 23 = .ok (.iastore, 1) := by decide +kernel
theorem dX0_stretchWires_24 : decode cX0_stretchWires 24 = .ok (.iinc 3 1, 3) := by decide +kernel
theorem dX0_stretchWires_27 : decode cX0_stretchWires 27 = .ok (.goto (-25), 3) := by decide +kernel
theorem dX0_stretchWires_30 : decode cX0_stretchWires 30 = .ok (.return_, 1) := by decide +kernel
theorem dX0_singTo_0 : decode cX0_singTo 0 = .ok (.iconst 0, 1) := by decide +kernel
theorem dX0_singTo_1 : decode cX0_singTo 1 = .ok (.istore_n 3, 1) := by decide +kernel
theorem dX0_singTo_2 : decode cX0_singTo 2 = .ok (.iload_n 3, 1) := by decide +kernel
theorem dX0_singTo_3 : decode cX0_singTo 3 = .ok (.aload_n 1, 1) := by decide +kernel
theorem dX0_singTo_4 : decode cX0_singTo 4 = .ok (.getfield 27, 3) := by decide +kernel
theorem dX0_singTo_7 : decode cX0_singTo 7 = .ok (.if_icmp .ge 36, 3) := by decide +kernel
theorem dX0_singTo_10 : decode cX0_singTo 10 = .ok (.aload_n 0, 1) := by decide +kernel
theorem dX0_singTo_11 : decode cX0_singTo 11 = .ok (.getfield 9, 3) := by decide +kernel
theorem dX0_singTo_14 : decode cX0_singTo 14 = .ok (.iload_n 3, 1) := by decide +kernel
theorem dX0_singTo_15 : decode cX0_singTo 15 = .ok (.aload_n 1, 1) := by decide +kernel
theorem dX0_singTo_16 : decode cX0_singTo 16 = .ok (.iload_n 3, 1) := by decide +kernel
theorem dX0_singTo_17 : decode cX0_singTo 17 = .ok (.iconst 0, 1) := by decide +kernel
theorem dX0_singTo_18 : decode cX0_singTo 18 = .ok (.invokevirtual 41, 3) := by decide +kernel
theorem dX0_singTo_21 : decode cX0_singTo 21 = .ok (.iconst 2, 1) := by decide +kernel
theorem dX0_singTo_22 : decode cX0_singTo 22 = .ok (.if_icmp .ne 13, 3) := by decide +kernel
theorem dX0_singTo_25 : decode cX0_singTo 25 = .ok (.aload_n 1, 1) := by decide +kernel
theorem dX0_singTo_26 : decode cX0_singTo 26 = .ok (.iload_n 3, 1) := by decide +kernel
theorem dX0_singTo_27 : decode cX0_singTo 27 = .ok (.iconst 3, 1) := by decide +kernel
theorem dX0_singTo_28 : decode cX0_singTo 28 = .ok (.invokevirtual 41, 3) := by decide +kernel
theorem dX0_singTo_31 : decode cX0_singTo 31 = .ok (.ineg, 1) := by decide +kernel
theorem dX0_singTo_32 : decode cX0_singTo 32 = .ok (.goto 4, 3) := by decide +kernel
theorem dX0_singTo_35 : decode cX0_singTo 35 = .ok (.iconst 0, 1) := by decide +kernel
theorem dX0_singTo_36 : decode cX0_singTo 36 = .ok (.iastore, 1) := by decide +kernel
theorem dX0_singTo_37 : decode cX0_singTo 37 = .ok (.iinc 3 1, 3) := by decide +kernel
theorem dX0_singTo_40 : decode cX0_singTo 40 = .ok (.goto (-38), 3) := by decide +kernel
theorem dX0_singTo_43 : decode cX0_singTo 43 = .ok (.iconst 1, 1) := by decide +kernel
theorem dX0_singTo_44 : decode cX0_singTo 44 = .ok (.istore_n 3, 1) := by decide +kernel
theorem dX0_singTo_45 : decode cX0_singTo 45 = .ok (.iload_n 3, 1) := by decide +kernel
theorem dX0_singTo_46 : decode cX0_singTo 46 = .ok (.iload_n 2, 1) := by decide +kernel
theorem dX0_singTo_47 : decode cX0_singTo 47 = .ok (.if_icmp .gt 75, 3) := by decide +kernel
theorem dX0_singTo_50 : decode cX0_singTo 50 = .ok (.aload_n 0, 1) := by decide +kernel
theorem dX0_singTo_51 : decode cX0_singTo 51 = .ok (.getfield 15, 3) := by decide +kernel
theorem dX0_singTo_54 : decode cX0_singTo 54 = .ok (.astore 4, 2) := by decide +kernel
theorem dX0_singTo_56 : decode cX0_singTo 56 = .ok (.aload_n 0, 1) := by decide +kernel
theorem dX0_singTo_57 : decode cX0_singTo 57 = .ok (.aload_n 0, 1) := by decide +kernel
theorem dX0_singTo_58 : decode cX0_singTo 58 = .ok (.getfield 9, 3) := by decide +kernel
theorem dX0_singTo_61 : decode cX0_singTo 61 = .ok (.putfield 15, 3) := by decide +kernel
theorem dX0_singTo_64 : decode cX0_singTo 64 = .ok (.aload_n 0, 1) := by decide +kernel
theorem dX0_singTo_65 : decode cX0_singTo 65 = .ok (.aload 4, 2) := by decide +kernel
theorem dX0_singTo_67 : decode cX0_singTo 67 = .ok (.putfield 9, 3) := by decide +kernel
theorem dX0_singTo_70 : decode cX0_singTo 70 = .ok (.iconst 0, 1) := by decide +kernel
theorem dX0_singTo_71 : decode cX0_singTo 71 = .ok (.istore 5, 2) := by decide +kernel
theorem dX0_singTo_73 : decode cX0_singTo 73 = .ok (.iload 5, 2) := by decide +kernel
theorem dX0_singTo_75 : decode cX0_singTo 75 = .ok (.aload_n 1, 1) := by decide +kernel
theorem dX0_singTo_76 : decode cX0_singTo 76 = .ok (.getfield 27, 3) := by decide +kernel
theorem dX0_singTo_79 : decode cX0_singTo 79 = .ok (.if_icmp .ge 37, 3) := by decide +kernel
theorem dX0_singTo_82 : decode cX0_singTo 82 = .ok (.aload_n 0, 1) := by decide +kernel
theorem dX0_singTo_83 : decode cX0_singTo 83 = .ok (.getfield 9, 3) := by decide +kernel
theorem dX0_singTo_86 : decode cX0_singTo 86 = .ok (.iload 5, 2) := by decide +kernel
theorem dX0_singTo_88 : decode cX0_singTo 88 = .ok (.aload_n 1, 1) := by decide +kernel
theorem dX0_singTo_89 : decode cX0_singTo 89 = .ok (.iload 5, 2) := by decide +kernel
theorem dX0_singTo_91 : decode cX0_singTo 91 = .ok (.invokevirtual 33, 3) := by decide +kernel
theorem dX0_singTo_94 : decode cX0_singTo 94 = .ok (.ifCond .eq 14, 3) := by decide +kernel
theorem dX0_singTo_97 : decode cX0_singTo 97 = .ok (.aload_n 0, 1) := by decide +kernel
theorem dX0_singTo_98 : decode cX0_singTo 98 = .ok (.aload_n 1, 1) := by decide +kernel
theorem dX0_singTo_99 : decode cX0_singTo 99 = .ok (.iload 5, 2) := by decide +kernel
theorem dX0_singTo_101 : decode cX0_singTo 101 = .ok (.iload_n 3, 1) := by decide +kernel
theorem dX0_singTo_102 : decode cX0_singTo 102 = .ok (.invokevirtual 44, 3) := by decide +kernel
theorem dX0_singTo_105 : decode cX0_singTo 105 = .ok (.goto 4, 3) := by decide +kernel
theorem dX0_singTo_108 : decode cX0_singTo 108 = .ok (.iconst 0, 1) := by decide +kernel
theorem dX0_singTo_109 : decode cX0_singTo 109 = .ok (.iastore, 1) := by decide +kernel
theorem dX0_singTo_110 : decode cX0_singTo 110 = .ok (.iinc 5 1, 3) := by decide +kernel
theorem dX0_singTo_113 : decode cX0_singTo 113 = .ok (.goto (-40), 3) := by decide +kernel
theorem dX0_singTo_116 : decode cX0_singTo 116 = .ok (.iinc 3 1, 3) := by decide +kernel
theorem dX0_singTo_119 : decode cX0_singTo 119 = .ok (.goto (-74), 3) := by decide +kernel
theorem dX0_singTo_122 : decode cX0_singTo 122 = .ok (.return_, 1) := by decide +kernel
theorem dX0_timeAt_0 : decode cX0_timeAt 0 = .ok (.aload_n 1, 1) := by decide +kernel
theorem dX0_timeAt_1 : decode cX0_timeAt 1 = .ok (.iload_n 2, 1) := by decide +kernel
theorem dX0_timeAt_2 : decode cX0_timeAt 2 = .ok (.iconst 0, 1) := by decide +kernel
theorem dX0_timeAt_3 : decode cX0_timeAt 3 = .ok (.invokevirtual 41, 3) := by decide +kernel
theorem dX0_timeAt_6 : decode cX0_timeAt 6 = .ok (.istore 4, 2) := by decide +kernel
theorem dX0_timeAt_8 : decode cX0_timeAt 8 = .ok (.iload 4, 2) := by decide +kernel
theorem dX0_timeAt_10 : decode cX0_timeAt 10 = .ok (.iconst 1, 1) := by decide +kernel
theorem dX0_timeAt_11 : decode cX0_timeAt 11 = .ok (.if_icmp .ne 10, 3) := by decide +kernel
theorem dX0_timeAt_14 : decode cX0_timeAt 14 = .ok (.iload_n 3, 1) := by decide +kernel
theorem dX0_timeAt_15 : decode cX0_timeAt 15 = .ok (.aload_n 1, 1) := by decide +kernel
theorem dX0_timeAt_16 : decode cX0_timeAt 16 = .ok (.getfield 48, 3) := by decide +kernel
theorem dX0_timeAt_19 : decode cX0_timeAt 19 = .ok (.imul, 1) := by decide +kernel
theorem dX0_timeAt_20 : decode cX0_timeAt 20 = .ok (.ireturn, 1) := by decide +kernel
theorem dX0_timeAt_21 : decode cX0_timeAt 21 = .ok (.iload 4, 2) := by decide +kernel
theorem dX0_timeAt_23 : decode cX0_timeAt 23 = .ok (.iconst 2, 1) := by decide +kernel
theorem dX0_timeAt_24 : decode cX0_timeAt 24 = .ok (.if_icmp .ne 17, 3) := by decide +kernel
theorem dX0_timeAt_27 : decode cX0_timeAt 27 = .ok (.iload_n 3, 1) := by decide +kernel
theorem dX0_timeAt_28 : decode cX0_timeAt 28 = .ok (.aload_n 1, 1) := by decide +kernel
theorem dX0_timeAt_29 : decode cX0_timeAt 29 = .ok (.getfield 48, 3) := by decide +kernel
theorem dX0_timeAt_32 : decode cX0_timeAt 32 = .ok (.imul, 1) := by decide +kernel
theorem dX0_timeAt_33 : decode cX0_timeAt 33 = .ok (.aload_n 1, 1) := by decide +kernel
theorem dX0_timeAt_34 : decode cX0_timeAt 34 = .ok (.iload_n 2, 1) := by decide +kernel
theorem dX0_timeAt_35 : decode cX0_timeAt 35 = .ok (.iconst 3, 1) := by decide +kernel
theorem dX0_timeAt_36 : decode cX0_timeAt 36 = .ok (.invokevirtual 41, 3) := by decide +kernel
theorem dX0_timeAt_39 : decode cX0_timeAt 39 = .ok (.isub, 1) := by decide +kernel
theorem dX0_timeAt_40 : decode cX0_timeAt 40 = .ok (.ireturn, 1) := by decide +kernel
theorem dX0_timeAt_41 : decode cX0_timeAt 41 = .ok (.aload_n 0, 1) := by decide +kernel
theorem dX0_timeAt_42 : decode cX0_timeAt 42 = .ok (.getfield 15, 3) := by decide +kernel
theorem dX0_timeAt_45 : decode cX0_timeAt 45 = .ok (.iload_n 2, 1) := by decide +kernel
theorem dX0_timeAt_46 : decode cX0_timeAt 46 = .ok (.iaload, 1) := by decide +kernel
theorem dX0_timeAt_47 : decode cX0_timeAt 47 = .ok (.istore 5, 2) := by decide +kernel
theorem dX0_timeAt_49 : decode cX0_timeAt 49 = .ok (.aload_n 0, 1) := by decide +kernel
theorem dX0_timeAt_50 : decode cX0_timeAt 50 = .ok (.iload_n 2, 1) := by decide +kernel
theorem dX0_timeAt_51 : decode cX0_timeAt 51 = .ok (.iload 4, 2) := by decide +kernel
theorem dX0_timeAt_53 : decode cX0_timeAt 53 = .ok (.iconst 3, 1) := by decide +kernel
theorem dX0_timeAt_54 : decode cX0_timeAt 54 = .ok (.if_icmp .ne 12, 3) := by decide +kernel
theorem dX0_timeAt_57 : decode cX0_timeAt 57 = .ok (.aload_n 1, 1) := by decide +kernel
theorem dX0_timeAt_58 : decode cX0_timeAt 58 = .ok (.iload_n 2, 1) := by decide +kernel
theorem dX0_timeAt_59 : decode cX0_timeAt 59 = .ok (.iconst 4, 1) := by decide +kernel
theorem dX0_timeAt_60 : decode cX0_timeAt 60 = .ok (.invokevirtual 41, 3) := by decide +kernel
theorem dX0_timeAt_63 : decode cX0_timeAt 63 = .ok (.goto 4, 3) := by decide +kernel
theorem dX0_timeAt_66 : decode cX0_timeAt 66 = .ok (.iconst 0, 1) := by decide +kernel
theorem dX0_timeAt_67 : decode cX0_timeAt 67 = .ok (.invokevirtual 51, 3) := by decide +kernel
theorem dX0_timeAt_70 : decode cX0_timeAt 70 = .ok (.istore 6, 2) := by decide +kernel
theorem dX0_timeAt_72 : decode cX0_timeAt 72 = .ok (.aload_n 1, 1) := by decide +kernel
theorem dX0_timeAt_73 : decode cX0_timeAt 73 = .ok (.iload_n 2, 1) := by decide +kernel
theorem dX0_timeAt_74 : decode cX0_timeAt 74 = .ok (.iconst 2, 1) := by decide +kernel
theorem dX0_timeAt_75 : decode cX0_timeAt 75 = .ok (.invokevirtual 41, 3) := by decide +kernel
theorem dX0_timeAt_78 : decode cX0_timeAt 78 = .ok (.iload 6, 2) := by decide +kernel
theorem dX0_timeAt_80 : decode cX0_timeAt 80 = .ok (.imul, 1) := by decide +kernel
theorem dX0_timeAt_81 : decode cX0_timeAt 81 = .ok (.bipush 100, 2) := by decide +kernel
theorem dX0_timeAt_83 : decode cX0_timeAt 83 = .ok (.idiv, 1) := by decide +kernel
theorem dX0_timeAt_84 : decode cX0_timeAt 84 = .ok (.istore 7, 2) := by decide +kernel
theorem dX0_timeAt_86 : decode cX0_timeAt 86 = .ok (.iload 5, 2) := by decide +kernel
theorem dX0_timeAt_88 : decode cX0_timeAt 88 = .ok (.iconst 1, 1) := by decide +kernel
theorem dX0_timeAt_89 : decode cX0_timeAt 89 = .ok (.iadd, 1) := by decide +kernel
theorem dX0_timeAt_90 : decode cX0_timeAt 90 = .ok (.iload 5, 2) := by decide +kernel
theorem dX0_timeAt_92 : decode cX0_timeAt 92 = .ok (.aload_n 1, 1) := by decide +kernel
theorem dX0_timeAt_93 : decode cX0_timeAt 93 = .ok (.getfield 48, 3) := by decide +kernel
theorem dX0_timeAt_96 : decode cX0_timeAt 96 = .ok (.iadd, 1) := by decide +kernel
theorem dX0_timeAt_97 : decode cX0_timeAt 97 = .ok (.aload_n 1, 1) := by decide +kernel
theorem dX0_timeAt_98 : decode cX0_timeAt 98 = .ok (.iload_n 2, 1) := by decide +kernel
theorem dX0_timeAt_99 : decode cX0_timeAt 99 = .ok (.iconst 1, 1) := by decide +kernel
theorem dX0_timeAt_100 : decode cX0_timeAt 100 = .ok (.invokevirtual 41, 3) := by decide +kernel
theorem dX0_timeAt_103 : decode cX0_timeAt 103 = .ok (.iadd, 1) := by decide +kernel
theorem dX0_timeAt_104 : decode cX0_timeAt 104 = .ok (.iload 7, 2) := by decide +kernel
theorem dX0_timeAt_106 : decode cX0_timeAt 106 = .ok (.iadd, 1) := by decide +kernel
theorem dX0_timeAt_107 : decode cX0_timeAt 107 = .ok (.invokestatic 54, 3) := by decide +kernel
theorem dX0_timeAt_110 : decode cX0_timeAt 110 = .ok (.ireturn, 1) := by decide +kernel
theorem dX0_meanLag_0 : decode cX0_meanLag 0 = .ok (.aload_n 0, 1) := by decide +kernel
theorem dX0_meanLag_1 : decode cX0_meanLag 1 = .ok (.getfield 21, 3) := by decide +kernel
theorem dX0_meanLag_4 : decode cX0_meanLag 4 = .ok (.iload_n 1, 1) := by decide +kernel
theorem dX0_meanLag_5 : decode cX0_meanLag 5 = .ok (.iaload, 1) := by decide +kernel
theorem dX0_meanLag_6 : decode cX0_meanLag 6 = .ok (.istore_n 3, 1) := by decide +kernel
theorem dX0_meanLag_7 : decode cX0_meanLag 7 = .ok (.iload_n 3, 1) := by decide +kernel
theorem dX0_meanLag_8 : decode cX0_meanLag 8 = .ok (.ifCond .ne 5, 3) := by decide +kernel
theorem dX0_meanLag_11 : decode cX0_meanLag 11 = .ok (.iconst 0, 1) := by decide +kernel
theorem dX0_meanLag_12 : decode cX0_meanLag 12 = .ok (.ireturn, 1) := by decide +kernel
theorem dX0_meanLag_13 : decode cX0_meanLag 13 = .ok (.aload_n 0, 1) := by decide +kernel
theorem dX0_meanLag_14 : decode cX0_meanLag 14 = .ok (.getfield 24, 3) := by decide +kernel
theorem dX0_meanLag_17 : decode cX0_meanLag 17 = .ok (.iload_n 1, 1) := by decide +kernel
theorem dX0_meanLag_18 : decode cX0_meanLag 18 = .ok (.iaload, 1) := by decide +kernel
theorem dX0_meanLag_19 : decode cX0_meanLag 19 = .ok (.iload_n 3, 1) := by decide +kernel
theorem dX0_meanLag_20 : decode cX0_meanLag 20 = .ok (.aload_n 0, 1) := by decide +kernel
theorem dX0_meanLag_21 : decode cX0_meanLag 21 = .ok (.getfield 15, 3) := by decide +kernel
theorem dX0_meanLag_24 : decode cX0_meanLag 24 = .ok (.iload_n 1, 1) := by decide +kernel
theorem dX0_meanLag_25 : decode cX0_meanLag 25 = .ok (.iaload, 1) := by decide +kernel
theorem dX0_meanLag_26 : decode cX0_meanLag 26 = .ok (.iload_n 2, 1) := by decide +kernel
theorem dX0_meanLag_27 : decode cX0_meanLag 27 = .ok (.iadd, 1) := by decide +kernel
theorem dX0_meanLag_28 : decode cX0_meanLag 28 = .ok (.imul, 1) := by decide +kernel
theorem dX0_meanLag_29 : decode cX0_meanLag 29 = .ok (.isub, 1) := by decide +kernel
theorem dX0_meanLag_30 : decode cX0_meanLag 30 = .ok (.istore 4, 2) := by decide +kernel
theorem dX0_meanLag_32 : decode cX0_meanLag 32 = .ok (.iconst 0, 1) := by decide +kernel
theorem dX0_meanLag_33 : decode cX0_meanLag 33 = .ok (.istore 5, 2) := by decide +kernel
theorem dX0_meanLag_35 : decode cX0_meanLag 35 = .ok (.iload 5, 2) := by decide +kernel
theorem dX0_meanLag_37 : decode cX0_meanLag 37 = .ok (.iload_n 3, 1) := by decide +kernel
theorem dX0_meanLag_38 : decode cX0_meanLag 38 = .ok (.if_icmp .ge 31, 3) := by decide +kernel
theorem dX0_meanLag_41 : decode cX0_meanLag 41 = .ok (.iload 4, 2) := by decide +kernel
theorem dX0_meanLag_43 : decode cX0_meanLag 43 = .ok (.aload_n 0, 1) := by decide +kernel
theorem dX0_meanLag_44 : decode cX0_meanLag 44 = .ok (.getfield 15, 3) := by decide +kernel
theorem dX0_meanLag_47 : decode cX0_meanLag 47 = .ok (.aload_n 0, 1) := by decide +kernel
theorem dX0_meanLag_48 : decode cX0_meanLag 48 = .ok (.getfield 18, 3) := by decide +kernel
theorem dX0_meanLag_51 : decode cX0_meanLag 51 = .ok (.iload_n 1, 1) := by decide +kernel
theorem dX0_meanLag_52 : decode cX0_meanLag 52 = .ok (.bipush 8, 2) := by decide +kernel
theorem dX0_meanLag_54 : decode cX0_meanLag 54 = .ok (.imul, 1) := by decide +kernel
theorem dX0_meanLag_55 : decode cX0_meanLag 55 = .ok (.iload 5, 2) := by decide +kernel
theorem dX0_meanLag_57 : decode cX0_meanLag 57 = .ok (.iadd, 1) := by decide +kernel
theorem dX0_meanLag_58 : decode cX0_meanLag 58 = .ok (.iaload, 1) := by decide +kernel
theorem dX0_meanLag_59 : decode cX0_meanLag 59 = .ok (.iaload, 1) := by decide +kernel
theorem dX0_meanLag_60 : decode cX0_meanLag 60 = .ok (.iadd, 1) := by decide +kernel
theorem dX0_meanLag_61 : decode cX0_meanLag 61 = .ok (.istore 4, 2) := by decide +kernel
theorem dX0_meanLag_63 : decode cX0_meanLag 63 = .ok (.iinc 5 1, 3) := by decide +kernel
theorem dX0_meanLag_66 : decode cX0_meanLag 66 = .ok (.goto (-31), 3) := by decide +kernel
theorem dX0_meanLag_69 : decode cX0_meanLag 69 = .ok (.iload 4, 2) := by decide +kernel
theorem dX0_meanLag_71 : decode cX0_meanLag 71 = .ok (.iload_n 3, 1) := by decide +kernel
theorem dX0_meanLag_72 : decode cX0_meanLag 72 = .ok (.idiv, 1) := by decide +kernel
theorem dX0_meanLag_73 : decode cX0_meanLag 73 = .ok (.ireturn, 1) := by decide +kernel
theorem dX0_timeOf_0 : decode cX0_timeOf 0 = .ok (.aload_n 0, 1) := by decide +kernel
theorem dX0_timeOf_1 : decode cX0_timeOf 1 = .ok (.getfield 9, 3) := by decide +kernel
theorem dX0_timeOf_4 : decode cX0_timeOf 4 = .ok (.iload_n 1, 1) := by decide +kernel
theorem dX0_timeOf_5 : decode cX0_timeOf 5 = .ok (.iaload, 1) := by decide +kernel
theorem dX0_timeOf_6 : decode cX0_timeOf 6 = .ok (.ireturn, 1) := by decide +kernel
theorem dX0_meanPace_0 : decode cX0_meanPace 0 = .ok (.iconst 0, 1) := by decide +kernel
theorem dX0_meanPace_1 : decode cX0_meanPace 1 = .ok (.istore_n 2, 1) := by decide +kernel
theorem dX0_meanPace_2 : decode cX0_meanPace 2 = .ok (.iconst 0, 1) := by decide +kernel
theorem dX0_meanPace_3 : decode cX0_meanPace 3 = .ok (.istore_n 3, 1) := by decide +kernel
theorem dX0_meanPace_4 : decode cX0_meanPace 4 = .ok (.iconst 0, 1) := by decide +kernel
theorem dX0_meanPace_5 : decode cX0_meanPace 5 = .ok (.istore 4, 2) := by decide +kernel
theorem dX0_meanPace_7 : decode cX0_meanPace 7 = .ok (.iload 4, 2) := by decide +kernel
theorem dX0_meanPace_9 : decode cX0_meanPace 9 = .ok (.aload_n 1, 1) := by decide +kernel
theorem dX0_meanPace_10 : decode cX0_meanPace 10 = .ok (.getfield 27, 3) := by decide +kernel
theorem dX0_meanPace_13 : decode cX0_meanPace 13 = .ok (.if_icmp .ge 39, 3) := by decide +kernel
theorem dX0_meanPace_16 : decode cX0_meanPace 16 = .ok (.aload_n 1, 1) := by decide +kernel
theorem dX0_meanPace_17 : decode cX0_meanPace 17 = .ok (.iload 4, 2) := by decide +kernel
theorem dX0_meanPace_19 : decode cX0_meanPace 19 = .ok (.invokevirtual 33, 3) := by decide +kernel
theorem dX0_meanPace_22 : decode cX0_meanPace 22 = .ok (.ifCond .eq 24, 3) := by decide +kernel
theorem dX0_meanPace_25 : decode cX0_meanPace 25 = .ok (.iload_n 2, 1) := by decide +kernel
theorem dX0_meanPace_26 : decode cX0_meanPace 26 = .ok (.aload_n 0, 1) := by decide +kernel
theorem dX0_meanPace_27 : decode cX0_meanPace 27 = .ok (.getfield 9, 3) := by decide +kernel
theorem dX0_meanPace_30 : decode cX0_meanPace 30 = .ok (.iload 4, 2) := by decide +kernel
theorem dX0_meanPace_32 : decode cX0_meanPace 32 = .ok (.iaload, 1) := by decide +kernel
theorem dX0_meanPace_33 : decode cX0_meanPace 33 = .ok (.aload_n 0, 1) := by decide +kernel
theorem dX0_meanPace_34 : decode cX0_meanPace 34 = .ok (.getfield 15, 3) := by decide +kernel
theorem dX0_meanPace_37 : decode cX0_meanPace 37 = .ok (.iload 4, 2) := by decide +kernel
theorem dX0_meanPace_39 : decode cX0_meanPace 39 = .ok (.iaload, 1) := by decide +kernel
theorem dX0_meanPace_40 : decode cX0_meanPace 40 = .ok (.isub, 1) := by decide +kernel
theorem dX0_meanPace_41 : decode cX0_meanPace 41 = .ok (.iadd, 1) := by decide +kernel
theorem dX0_meanPace_42 : decode cX0_meanPace 42 = .ok (.istore_n 2, 1) := by decide +kernel
theorem dX0_meanPace_43 : decode cX0_meanPace 43 = .ok (.iinc 3 1, 3) := by decide +kernel
theorem dX0_meanPace_46 : decode cX0_meanPace 46 = .ok (.iinc 4 1, 3) := by decide +kernel
theorem dX0_meanPace_49 : decode cX0_meanPace 49 = .ok (.goto (-42), 3) := by decide +kernel
theorem dX0_meanPace_52 : decode cX0_meanPace 52 = .ok (.iload_n 3, 1) := by decide +kernel
theorem dX0_meanPace_53 : decode cX0_meanPace 53 = .ok (.ifCond .ne 7, 3) := by decide +kernel
theorem dX0_meanPace_56 : decode cX0_meanPace 56 = .ok (.iconst 0, 1) := by decide +kernel
theorem dX0_meanPace_57 : decode cX0_meanPace 57 = .ok (.goto 6, 3) := by decide +kernel
theorem dX0_meanPace_60 : decode cX0_meanPace 60 = .ok (.iload_n 2, 1) := by decide +kernel
theorem dX0_meanPace_61 : decode cX0_meanPace 61 = .ok (.iload_n 3, 1) := by decide +kernel
theorem dX0_meanPace_62 : decode cX0_meanPace 62 = .ok (.idiv, 1) := by decide +kernel
theorem dX0_meanPace_63 : decode cX0_meanPace 63 = .ok (.ireturn, 1) := by decide +kernel
theorem dX0_spread_0 : decode cX0_spread 0 = .ok (.ldc 61, 2) := by decide +kernel
theorem dX0_spread_2 : decode cX0_spread 2 = .ok (.istore_n 2, 1) := by decide +kernel
theorem dX0_spread_3 : decode cX0_spread 3 = .ok (.ldc 62, 2) := by decide +kernel
theorem dX0_spread_5 : decode cX0_spread 5 = .ok (.istore_n 3, 1) := by decide +kernel
theorem dX0_spread_6 : decode cX0_spread 6 = .ok (.iconst 0, 1) := by decide +kernel
theorem dX0_spread_7 : decode cX0_spread 7 = .ok (.istore 4, 2) := by decide +kernel
theorem dX0_spread_9 : decode cX0_spread 9 = .ok (.iload 4, 2) := by decide +kernel
theorem dX0_spread_11 : decode cX0_spread 11 = .ok (.aload_n 1, 1) := by decide +kernel
theorem dX0_spread_12 : decode cX0_spread 12 = .ok (.getfield 27, 3) := by decide +kernel
theorem dX0_spread_15 : decode cX0_spread 15 = .ok (.if_icmp .ge 42, 3) := by decide +kernel
theorem dX0_spread_18 : decode cX0_spread 18 = .ok (.aload_n 1, 1) := by decide +kernel
theorem dX0_spread_19 : decode cX0_spread 19 = .ok (.iload 4, 2) := by decide +kernel
theorem dX0_spread_21 : decode cX0_spread 21 = .ok (.invokevirtual 33, 3) := by decide +kernel
theorem dX0_spread_24 : decode cX0_spread 24 = .ok (.ifCond .eq 27, 3) := by decide +kernel
theorem dX0_spread_27 : decode cX0_spread 27 = .ok (.iload_n 2, 1) := by decide +kernel
theorem dX0_spread_28 : decode cX0_spread 28 = .ok (.aload_n 0, 1) := by decide +kernel
theorem dX0_spread_29 : decode cX0_spread 29 = .ok (.getfield 9, 3) := by decide +kernel
theorem dX0_spread_32 : decode cX0_spread 32 = .ok (.iload 4, 2) := by decide +kernel
theorem dX0_spread_34 : decode cX0_spread 34 = .ok (.iaload, 1) := by decide +kernel
theorem dX0_spread_35 : decode cX0_spread 35 = .ok (.invokestatic 63, 3) := by decide +kernel
theorem dX0_spread_38 : decode cX0_spread 38 = .ok (.istore_n 2, 1) := by decide +kernel
theorem dX0_spread_39 : decode cX0_spread 39 = .ok (.iload_n 3, 1) := by decide +kernel
theorem dX0_spread_40 : decode cX0_spread 40 = .ok (.aload_n 0, 1) := by decide +kernel
theorem dX0_spread_41 : decode cX0_spread 41 = .ok (.getfield 9, 3) := by decide +kernel
theorem dX0_spread_44 : decode cX0_spread 44 = .ok (.iload 4, 2) := by decide +kernel
theorem dX0_spread_46 : decode cX0_spread 46 = .ok (.iaload, 1) := by decide +kernel
theorem dX0_spread_47 : decode cX0_spread 47 = .ok (.invokestatic 54, 3) := by decide +kernel
theorem dX0_spread_50 : decode cX0_spread 50 = .ok (.istore_n 3, 1) := by decide +kernel
theorem dX0_spread_51 : decode cX0_spread 51 = .ok (.iinc 4 1, 3) := by decide +kernel
theorem dX0_spread_54 : decode cX0_spread 54 = .ok (.goto (-45), 3) := by decide +kernel
theorem dX0_spread_57 : decode cX0_spread 57 = .ok (.iload_n 3, 1) := by decide +kernel
theorem dX0_spread_58 : decode cX0_spread 58 = .ok (.iload_n 2, 1) := by decide +kernel
theorem dX0_spread_59 : decode cX0_spread 59 = .ok (.isub, 1) := by decide +kernel
theorem dX0_spread_60 : decode cX0_spread 60 = .ok (.ireturn, 1) := by decide +kernel
theorem dX1_init_0 : decode cX1_init 0 = .ok (.aload_n 0, 1) := by decide +kernel
theorem dX1_init_1 : decode cX1_init 1 = .ok (.invokespecial 3, 3) := by decide +kernel
theorem dX1_init_4 : decode cX1_init 4 = .ok (.aload_n 0, 1) := by decide +kernel
theorem dX1_init_5 : decode cX1_init 5 = .ok (.new 9, 3) := by decide +kernel
theorem dX1_init_8 : decode cX1_init 8 = .ok (.dup, 1) := by decide +kernel
theorem dX1_init_9 : decode cX1_init 9 = .ok (.invokespecial 11, 3) := by decide +kernel
theorem dX1_init_12 : decode cX1_init 12 = .ok (.putfield 12, 3) := by decide +kernel
theorem dX1_init_15 : decode cX1_init 15 = .ok (.aload_n 0, 1) := by decide +kernel
theorem dX1_init_16 : decode cX1_init 16 = .ok (.new 18, 3) := by decide +kernel
theorem dX1_init_19 : decode cX1_init 19 = .ok (.dup, 1) := by decide +kernel
theorem dX1_init_20 : decode cX1_init 20 = .ok (.invokespecial 20, 3) := by decide +kernel
theorem dX1_init_23 : decode cX1_init 23 = .ok (.putfield 21, 3) := by decide +kernel
theorem dX1_init_26 : decode cX1_init 26 = .ok (.aload_n 0, 1) := by decide +kernel
theorem dX1_init_27 : decode cX1_init 27 = .ok (.new 25, 3) := by decide +kernel
theorem dX1_init_30 : decode cX1_init 30 = .ok (.dup, 1) := by decide +kernel
theorem dX1_init_31 : decode cX1_init 31 = .ok (.invokespecial 27, 3) := by decide +kernel
theorem dX1_init_34 : decode cX1_init 34 = .ok (.putfield 28, 3) := by decide +kernel
theorem dX1_init_37 : decode cX1_init 37 = .ok (.aload_n 0, 1) := by decide +kernel
theorem dX1_init_38 : decode cX1_init 38 = .ok (.bipush 21, 2) := by decide +kernel
theorem dX1_init_40 : decode cX1_init 40 = .ok (.putfield 32, 3) := by decide +kernel
theorem dX1_init_43 : decode cX1_init 43 = .ok (.return_, 1) := by decide +kernel
theorem dX1_take_0 : decode cX1_take 0 = .ok (.aload_n 0, 1) := by decide +kernel
theorem dX1_take_1 : decode cX1_take 1 = .ok (.getfield 12, 3) := by decide +kernel
theorem dX1_take_4 : decode cX1_take 4 = .ok (.aload_n 1, 1) := by decide +kernel
theorem dX1_take_5 : decode cX1_take 5 = .ok (.getfield 12, 3) := by decide +kernel
theorem dX1_take_8 : decode cX1_take 8 = .ok (.invokevirtual 36, 3) := by decide +kernel
theorem dX1_take_11 : decode cX1_take 11 = .ok (.aload_n 0, 1) := by decide +kernel
theorem dX1_take_12 : decode cX1_take 12 = .ok (.getfield 21, 3) := by decide +kernel
theorem dX1_take_15 : decode cX1_take 15 = .ok (.aload_n 1, 1) := by decide +kernel
theorem dX1_take_16 : decode cX1_take 16 = .ok (.getfield 21, 3) := by decide +kernel
theorem dX1_take_19 : decode cX1_take 19 = .ok (.invokevirtual 40, 3) := by decide +kernel
theorem dX1_take_22 : decode cX1_take 22 = .ok (.aload_n 0, 1) := by decide +kernel
theorem dX1_take_23 : decode cX1_take 23 = .ok (.getfield 28, 3) := by decide +kernel
theorem dX1_take_26 : decode cX1_take 26 = .ok (.aload_n 1, 1) := by decide +kernel
theorem dX1_take_27 : decode cX1_take 27 = .ok (.getfield 28, 3) := by decide +kernel
theorem dX1_take_30 : decode cX1_take 30 = .ok (.invokevirtual 43, 3) := by decide +kernel
theorem dX1_take_33 : decode cX1_take 33 = .ok (.aload_n 0, 1) := by decide +kernel
theorem dX1_take_34 : decode cX1_take 34 = .ok (.aload_n 1, 1) := by decide +kernel
theorem dX1_take_35 : decode cX1_take 35 = .ok (.getfield 32, 3) := by decide +kernel
theorem dX1_take_38 : decode cX1_take 38 = .ok (.putfield 32, 3) := by decide +kernel
theorem dX1_take_41 : decode cX1_take 41 = .ok (.return_, 1) := by decide +kernel
theorem dX2_init_0 : decode cX2_init 0 = .ok (.aload_n 0, 1) := by decide +kernel
theorem dX2_init_1 : decode cX2_init 1 = .ok (.invokespecial 3, 3) := by decide +kernel
theorem dX2_init_4 : decode cX2_init 4 = .ok (.aload_n 0, 1) := by decide +kernel
theorem dX2_init_5 : decode cX2_init 5 = .ok (.bipush 8, 2) := by decide +kernel
theorem dX2_init_7 : decode cX2_init 7 = .ok (.newarray .int, 2) := by decide +kernel
theorem dX2_init_9 : decode cX2_init 9 = .ok (.putfield 9, 3) := by decide +kernel
theorem dX2_init_12 : decode cX2_init 12 = .ok (.return_, 1) := by decide +kernel
theorem dX2_firstFailing_0 : decode cX2_firstFailing 0 = .ok (.aload_n 1, 1) := by decide +kernel
theorem dX2_firstFailing_1 : decode cX2_firstFailing 1 = .ok (.invokevirtual 15, 3) := by decide +kernel
theorem dX2_firstFailing_4 : decode cX2_firstFailing 4 = .ok (.iload_n 2, 1) := by decide +kernel
theorem dX2_firstFailing_5 : decode cX2_firstFailing 5 = .ok (.iconst (-1), 1) := by decide +kernel
theorem dX2_firstFailing_6 : decode cX2_firstFailing 6 = .ok (.ixor, 1) := by decide +kernel
theorem dX2_firstFailing_7 : decode cX2_firstFailing 7 = .ok (.iand, 1) := by decide +kernel
theorem dX2_firstFailing_8 : decode cX2_firstFailing 8 = .ok (.istore_n 3, 1) := by decide +kernel
theorem dX2_firstFailing_9 : decode cX2_firstFailing 9 = .ok (.iconst 0, 1) := by decide +kernel
theorem dX2_firstFailing_10 : decode cX2_firstFailing 10 = .ok (.istore 4, 2) := by decide +kernel
theorem dX2_firstFailing_12 : decode cX2_firstFailing 12 = .ok (.iconst 0, 1) := by decide +kernel
theorem dX2_firstFailing_13 : decode cX2_firstFailing 13 = .ok (.istore 5, 2) := by decide +kernel
theorem dX2_firstFailing_15 : decode cX2_firstFailing 15 = .ok (.iload 5, 2) := by decide +kernel
theorem dX2_firstFailing_17 : decode cX2_firstFailing 17 = .ok (.aload_n 1, 1) := by decide +kernel
theorem dX2_firstFailing_18 : decode cX2_firstFailing 18 = .ok (.getfield 21, 3) := by decide +kernel
theorem dX2_firstFailing_21 : decode cX2_firstFailing 21 = .ok (.if_icmp .ge 80, 3) := by decide +kernel
theorem dX2_firstFailing_24 : decode cX2_firstFailing 24 = .ok (.iload_n 3, 1) := by decide +kernel
theorem dX2_firstFailing_25 : decode cX2_firstFailing 25 = .ok (.ifCond .eq 76, 3) := by decide +kernel
theorem dX2_firstFailing_28 : decode cX2_firstFailing 28 = .ok (.iload_n 2, 1) := by decide +kernel
theorem dX2_firstFailing_29 : decode cX2_firstFailing 29 = .ok (.iload 5, 2) := by decide +kernel
theorem dX2_firstFailing_31 : decode cX2_firstFailing 31 = .ok (.ishr, 1) := by decide +kernel
theorem dX2_firstFailing_32 : decode cX2_firstFailing 32 = .ok (.iconst 1, 1) := by decide +kernel
theorem dX2_firstFailing_33 : decode cX2_firstFailing 33 = .ok (.iand, 1) := by decide +kernel
theorem dX2_firstFailing_34 : decode cX2_firstFailing 34 = .ok (.ifCond .ne 6, 3) := by decide +kernel
theorem dX2_firstFailing_37 : decode cX2_firstFailing 37 = .ok (.goto 58, 3) := by decide +kernel
theorem dX2_firstFailing_40 : decode cX2_firstFailing 40 = .ok (.aload_n 1, 1) := by decide +kernel
theorem dX2_firstFailing_41 : decode cX2_firstFailing 41 = .ok (.iload 5, 2) := by decide +kernel
theorem dX2_firstFailing_43 : decode cX2_firstFailing 43 = .ok (.invokevirtual 25, 3) := by decide +kernel
theorem dX2_firstFailing_46 : decode cX2_firstFailing 46 = .ok (.ifCond .ne 13, 3) := by decide +kernel
theorem dX2_firstFailing_49 : decode cX2_firstFailing 49 = .ok (.aload_n 1, 1) := by decide +kernel
theorem dX2_firstFailing_50 : decode cX2_firstFailing 50 = .ok (.iload 5, 2) := by decide +kernel
theorem dX2_firstFailing_52 : decode cX2_firstFailing 52 = .ok (.iload_n 3, 1) := by decide +kernel
theorem dX2_firstFailing_53 : decode cX2_firstFailing 53 = .ok (.invokevirtual 29, 3) := by decide +kernel
theorem dX2_firstFailing_56 : decode cX2_firstFailing 56 = .ok (.ifCond .ne 6, 3) := by decide +kernel
theorem dX2_firstFailing_59 : decode cX2_firstFailing 59 = .ok (.iload 5, 2) := by decide +kernel
theorem dX2_firstFailing_61 : decode cX2_firstFailing 61 = .ok (.ireturn, 1) := by decide +kernel
theorem dX2_firstFailing_62 : decode cX2_firstFailing 62 = .ok (.iload 4, 2) := by decide +kernel
theorem dX2_firstFailing_64 : decode cX2_firstFailing 64 = .ok (.ifCond .ne 17, 3) := by decide +kernel
theorem dX2_firstFailing_67 : decode cX2_firstFailing 67 = .ok (.aload_n 0, 1) := by decide +kernel
theorem dX2_firstFailing_68 : decode cX2_firstFailing 68 = .ok (.aload_n 1, 1) := by decide +kernel
theorem dX2_firstFailing_69 : decode cX2_firstFailing 69 = .ok (.iload 5, 2) := by decide +kernel
theorem dX2_firstFailing_71 : decode cX2_firstFailing 71 = .ok (.iload_n 3, 1) := by decide +kernel
theorem dX2_firstFailing_72 : decode cX2_firstFailing 72 = .ok (.invokevirtual 33, 3) := by decide +kernel
theorem dX2_firstFailing_75 : decode cX2_firstFailing 75 = .ok (.iconst 1, 1) := by decide +kernel
theorem dX2_firstFailing_76 : decode cX2_firstFailing 76 = .ok (.istore 4, 2) := by decide +kernel
theorem dX2_firstFailing_78 : decode cX2_firstFailing 78 = .ok (.goto 17, 3) := by decide +kernel
theorem dX2_firstFailing_81 : decode cX2_firstFailing 81 = .ok (.aload_n 0, 1) := by decide +kernel
theorem dX2_firstFailing_82 : decode cX2_firstFailing 82 = .ok (.aload_n 1, 1) := by decide +kernel
theorem dX2_firstFailing_83 : decode cX2_firstFailing 83 = .ok (.iload 5, 2) := by decide +kernel
theorem dX2_firstFailing_85 : decode cX2_firstFailing 85 = .ok (.iload_n 3, 1) := by decide +kernel
theorem dX2_firstFailing_86 : decode cX2_firstFailing 86 = .ok (.invokevirtual 37, 3) := by decide +kernel
theorem dX2_firstFailing_89 : decode cX2_firstFailing 89 = .ok (.ifCond .ne 6, 3) := by decide +kernel
theorem dX2_firstFailing_92 : decode cX2_firstFailing 92 = .ok (.iload 5, 2) := by decide +kernel
theorem dX2_firstFailing_94 : decode cX2_firstFailing 94 = .ok (.ireturn, 1) := by decide +kernel
theorem dX2_firstFailing_95 : decode cX2_firstFailing 95 = .ok (.iinc 5 1, 3) := by decide +kernel
theorem dX2_firstFailing_98 : decode cX2_firstFailing 98 = .ok (.goto (-83), 3) := by decide +kernel
theorem dX2_firstFailing_101 : decode cX2_firstFailing 101 = .ok (.bipush (-4), 2) := by decide +kernel
theorem dX2_firstFailing_103 : decode cX2_firstFailing 103 = .ok (.ireturn, 1) := by decide +kernel
theorem dX2_lead_0 : decode cX2_lead 0 = .ok (.aload_n 1, 1) := by decide +kernel
theorem dX2_lead_1 : decode cX2_lead 1 = .ok (.iload_n 2, 1) := by decide +kernel
theorem dX2_lead_2 : decode cX2_lead 2 = .ok (.iload_n 3, 1) := by decide +kernel
theorem dX2_lead_3 : decode cX2_lead 3 = .ok (.invokevirtual 41, 3) := by decide +kernel
theorem dX2_lead_6 : decode cX2_lead 6 = .ok (.istore 4, 2) := by decide +kernel
theorem dX2_lead_8 : decode cX2_lead 8 = .ok (.iconst 0, 1) := by decide +kernel
theorem dX2_lead_9 : decode cX2_lead 9 = .ok (.istore 5, 2) := by decide +kernel
theorem dX2_lead_11 : decode cX2_lead 11 = .ok (.iload 5, 2) := by decide +kernel
theorem dX2_lead_13 : decode cX2_lead 13 = .ok (.aload_n 1, 1) := by decide +kernel
theorem dX2_lead_14 : decode cX2_lead 14 = .ok (.getfield 21, 3) := by decide +kernel
theorem dX2_lead_17 : decode cX2_lead 17 = .ok (.if_icmp .ge 26, 3) := by decide +kernel
theorem dX2_lead_20 : decode cX2_lead 20 = .ok (.aload_n 0, 1) := by decide +kernel
theorem dX2_lead_21 : decode cX2_lead 21 = .ok (.getfield 9, 3) := by decide +kernel
theorem dX2_lead_24 : decode cX2_lead 24 = .ok (.iload 5, 2) := by decide +kernel
theorem dX2_lead_26 : decode cX2_lead 26 = .ok (.aload_n 1, 1) := by decide +kernel
theorem dX2_lead_27 : decode cX2_lead 27 = .ok (.iload 5, 2) := by decide +kernel
theorem dX2_lead_29 : decode cX2_lead 29 = .ok (.iload_n 2, 1) := by decide +kernel
theorem dX2_lead_30 : decode cX2_lead 30 = .ok (.invokevirtual 45, 3) := by decide +kernel
theorem dX2_lead_33 : decode cX2_lead 33 = .ok (.iload 4, 2) := by decide +kernel
theorem dX2_lead_35 : decode cX2_lead 35 = .ok (.isub, 1) := by decide +kernel
theorem dX2_lead_36 : decode cX2_lead 36 = .ok (.iastore, 1) := by decide +kernel
theorem dX2_lead_37 : decode cX2_lead 37 = .ok (.iinc 5 1, 3) := by decide +kernel
theorem dX2_lead_40 : decode cX2_lead 40 = .ok (.goto (-29), 3) := by decide +kernel
theorem dX2_lead_43 : decode cX2_lead 43 = .ok (.return_, 1) := by decide +kernel
theorem dX2_agrees_0 : decode cX2_agrees 0 = .ok (.aload_n 1, 1) := by decide +kernel
theorem dX2_agrees_1 : decode cX2_agrees 1 = .ok (.iload_n 2, 1) := by decide +kernel
theorem dX2_agrees_2 : decode cX2_agrees 2 = .ok (.iload_n 3, 1) := by decide +kernel
theorem dX2_agrees_3 : decode cX2_agrees 3 = .ok (.invokevirtual 41, 3) := by decide +kernel
theorem dX2_agrees_6 : decode cX2_agrees 6 = .ok (.istore 4, 2) := by decide +kernel
theorem dX2_agrees_8 : decode cX2_agrees 8 = .ok (.iconst 0, 1) := by decide +kernel
theorem dX2_agrees_9 : decode cX2_agrees 9 = .ok (.istore 5, 2) := by decide +kernel
theorem dX2_agrees_11 : decode cX2_agrees 11 = .ok (.iload 5, 2) := by decide +kernel
theorem dX2_agrees_13 : decode cX2_agrees 13 = .ok (.aload_n 1, 1) := by decide +kernel
theorem dX2_agrees_14 : decode cX2_agrees 14 = .ok (.getfield 21, 3) := by decide +kernel
theorem dX2_agrees_17 : decode cX2_agrees 17 = .ok (.if_icmp .ge 40, 3) := by decide +kernel
theorem dX2_agrees_20 : decode cX2_agrees 20 = .ok (.iload_n 3, 1) := by decide +kernel
theorem dX2_agrees_21 : decode cX2_agrees 21 = .ok (.iload 5, 2) := by decide +kernel
theorem dX2_agrees_23 : decode cX2_agrees 23 = .ok (.ishr, 1) := by decide +kernel
theorem dX2_agrees_24 : decode cX2_agrees 24 = .ok (.iconst 1, 1) := by decide +kernel
theorem dX2_agrees_25 : decode cX2_agrees 25 = .ok (.iand, 1) := by decide +kernel
theorem dX2_agrees_26 : decode cX2_agrees 26 = .ok (.ifCond .eq 25, 3) := by decide +kernel
theorem dX2_agrees_29 : decode cX2_agrees 29 = .ok (.aload_n 0, 1) := by decide +kernel
theorem dX2_agrees_30 : decode cX2_agrees 30 = .ok (.getfield 9, 3) := by decide +kernel
theorem dX2_agrees_33 : decode cX2_agrees 33 = .ok (.iload 5, 2) := by decide +kernel
theorem dX2_agrees_35 : decode cX2_agrees 35 = .ok (.iaload, 1) := by decide +kernel
theorem dX2_agrees_36 : decode cX2_agrees 36 = .ok (.aload_n 1, 1) := by decide +kernel
theorem dX2_agrees_37 : decode cX2_agrees 37 = .ok (.iload 5, 2) := by decide +kernel
theorem dX2_agrees_39 : decode cX2_agrees 39 = .ok (.iload_n 2, 1) := by decide +kernel
theorem dX2_agrees_40 : decode cX2_agrees 40 = .ok (.invokevirtual 45, 3) := by decide +kernel
theorem dX2_agrees_43 : decode cX2_agrees 43 = .ok (.iload 4, 2) := by decide +kernel
theorem dX2_agrees_45 : decode cX2_agrees 45 = .ok (.isub, 1) := by decide +kernel
theorem dX2_agrees_46 : decode cX2_agrees 46 = .ok (.if_icmp .eq 5, 3) := by decide +kernel
theorem dX2_agrees_49 : decode cX2_agrees 49 = .ok (.iconst 0, 1) := by decide +kernel
theorem dX2_agrees_50 : decode cX2_agrees 50 = .ok (.ireturn, 1) := by decide +kernel
theorem dX2_agrees_51 : decode cX2_agrees 51 = .ok (.iinc 5 1, 3) := by decide +kernel
theorem dX2_agrees_54 : decode cX2_agrees 54 = .ok (.goto (-43), 3) := by decide +kernel
theorem dX2_agrees_57 : decode cX2_agrees 57 = .ok (.iconst 1, 1) := by decide +kernel
theorem dX2_agrees_58 : decode cX2_agrees 58 = .ok (.ireturn, 1) := by decide +kernel
theorem dX2_leadOf_0 : decode cX2_leadOf 0 = .ok (.aload_n 0, 1) := by decide +kernel
theorem dX2_leadOf_1 : decode cX2_leadOf 1 = .ok (.getfield 9, 3) := by decide +kernel
theorem dX2_leadOf_4 : decode cX2_leadOf 4 = .ok (.iload_n 1, 1) := by decide +kernel
theorem dX2_leadOf_5 : decode cX2_leadOf 5 = .ok (.iaload, 1) := by decide +kernel
theorem dX2_leadOf_6 : decode cX2_leadOf 6 = .ok (.ireturn, 1) := by decide +kernel
theorem dX3_init_0 : decode cX3_init 0 = .ok (.aload_n 0, 1) := by decide +kernel
theorem dX3_init_1 : decode cX3_init 1 = .ok (.invokespecial 3, 3) := by decide +kernel
theorem dX3_init_4 : decode cX3_init 4 = .ok (.aload_n 0, 1) := by decide +kernel
theorem dX3_init_5 : decode cX3_init 5 = .ok (.bipush 8, 2) := by decide +kernel
theorem dX3_init_7 : decode cX3_init 7 = .ok (.newarray .long, 2) := by decide +kernel
theorem dX3_init_9 : decode cX3_init 9 = .ok (.putfield 9, 3) := by decide +kernel
theorem dX3_init_12 : decode cX3_init 12 = .ok (.return_, 1) := by decide +kernel
theorem dX3_take_0 : decode cX3_take 0 = .ok (.aload_n 0, 1) := by decide +kernel
theorem dX3_take_1 : decode cX3_take 1 = .ok (.aload_n 1, 1) := by decide +kernel
theorem dX3_take_2 : decode cX3_take 2 = .ok (.getfield 15, 3) := by decide +kernel
theorem dX3_take_5 : decode cX3_take 5 = .ok (.putfield 15, 3) := by decide +kernel
theorem dX3_take_8 : decode cX3_take 8 = .ok (.aload_n 1, 1) := by decide +kernel
theorem dX3_take_9 : decode cX3_take 9 = .ok (.getfield 9, 3) := by decide +kernel
theorem dX3_take_12 : decode cX3_take 12 = .ok (.iconst 0, 1) := by decide +kernel
theorem dX3_take_13 : decode cX3_take 13 = .ok (.aload_n 0, 1) := by decide +kernel
theorem dX3_take_14 : decode cX3_take 14 = .ok (.getfield 9, 3) := by decide +kernel
theorem dX3_take_17 : decode cX3_take 17 = .ok (.iconst 0, 1) := by decide +kernel
theorem dX3_take_18 : decode cX3_take 18 = .ok (.aload_n 0, 1) := by decide +kernel
theorem dX3_take_19 : decode cX3_take 19 = .ok (.getfield 9, 3) := by decide +kernel
theorem dX3_take_22 : decode cX3_take 22 = .ok (.arraylength, 1) := by decide +kernel
theorem dX3_take_23 : decode cX3_take 23 = .ok (.invokestatic 19, 3) := by decide +kernel
theorem dX3_take_26 : decode cX3_take 26 = .ok (.return_, 1) := by decide +kernel
theorem dX3_add_0 : decode cX3_add 0 = .ok (.aload_n 0, 1) := by decide +kernel
theorem dX3_add_1 : decode cX3_add 1 = .ok (.getfield 9, 3) := by decide +kernel
theorem dX3_add_4 : decode cX3_add 4 = .ok (.aload_n 0, 1) := by decide +kernel
theorem dX3_add_5 : decode cX3_add 5 = .ok (.getfield 15, 3) := by decide +kernel
theorem dX3_add_8 : decode cX3_add 8 = .ok (.lload_n 1, 1) := by decide +kernel
theorem dX3_add_9 : decode cX3_add 9 = .ok (.lastore, 1) := by decide +kernel
theorem dX3_add_10 : decode cX3_add 10 = .ok (.aload_n 0, 1) := by decide +kernel
theorem dX3_add_11 : decode cX3_add 11 = .ok (.dup, 1) := by decide +kernel
theorem dX3_add_12 : decode cX3_add 12 = .ok (.getfield 15, 3) := by decide +kernel
theorem dX3_add_15 : decode cX3_add 15 = .ok (.iconst 1, 1) := by decide +kernel
theorem dX3_add_16 : decode cX3_add 16 = .ok (.iadd, 1) := by decide +kernel
theorem dX3_add_17 : decode cX3_add 17 = .ok (.putfield 15, 3) := by decide +kernel
theorem dX3_add_20 : decode cX3_add 20 = .ok (.aload_n 0, 1) := by decide +kernel
theorem dX3_add_21 : decode cX3_add 21 = .ok (.getfield 15, 3) := by decide +kernel
theorem dX3_add_24 : decode cX3_add 24 = .ok (.iconst 1, 1) := by decide +kernel
theorem dX3_add_25 : decode cX3_add 25 = .ok (.isub, 1) := by decide +kernel
theorem dX3_add_26 : decode cX3_add 26 = .ok (.ireturn, 1) := by decide +kernel
theorem dX3_lostOf_0 : decode cX3_lostOf 0 = .ok (.iconst 0, 1) := by decide +kernel
theorem dX3_lostOf_1 : decode cX3_lostOf 1 = .ok (.istore_n 3, 1) := by decide +kernel
theorem dX3_lostOf_2 : decode cX3_lostOf 2 = .ok (.iconst 0, 1) := by decide +kernel
theorem dX3_lostOf_3 : decode cX3_lostOf 3 = .ok (.istore 4, 2) := by decide +kernel
theorem dX3_lostOf_5 : decode cX3_lostOf 5 = .ok (.iload 4, 2) := by decide +kernel
theorem dX3_lostOf_7 : decode cX3_lostOf 7 = .ok (.bipush 24, 2) := by decide +kernel
theorem dX3_lostOf_9 : decode cX3_lostOf 9 = .ok (.if_icmp .ge 101, 3) := by decide +kernel
theorem dX3_lostOf_12 : decode cX3_lostOf 12 = .ok (.iload 4, 2) := by decide +kernel
theorem dX3_lostOf_14 : decode cX3_lostOf 14 = .ok (.iload_n 2, 1) := by decide +kernel
theorem dX3_lostOf_15 : decode cX3_lostOf 15 = .ok (.imul, 1) := by decide +kernel
theorem dX3_lostOf_16 : decode cX3_lostOf 16 = .ok (.bipush 24, 2) := by decide +kernel
theorem dX3_lostOf_18 : decode cX3_lostOf 18 = .ok (.if_icmp .ge 92, 3) := by decide +kernel
theorem dX3_lostOf_21 : decode cX3_lostOf 21 = .ok (.bipush 24, 2) := by decide +kernel
theorem dX3_lostOf_23 : decode cX3_lostOf 23 = .ok (.iload 4, 2) := by decide +kernel
theorem dX3_lostOf_25 : decode cX3_lostOf 25 = .ok (.iload_n 2, 1) := by decide +kernel
theorem dX3_lostOf_26 : decode cX3_lostOf 26 = .ok (.imul, 1) := by decide +kernel
theorem dX3_lostOf_27 : decode cX3_lostOf 27 = .ok (.iload_n 2, 1) := by decide +kernel
theorem dX3_lostOf_28 : decode cX3_lostOf 28 = .ok (.iadd, 1) := by decide +kernel
theorem dX3_lostOf_29 : decode cX3_lostOf 29 = .ok (.invokestatic 25, 3) := by decide +kernel
theorem dX3_lostOf_32 : decode cX3_lostOf 32 = .ok (.istore 5, 2) := by decide +kernel
theorem dX3_lostOf_34 : decode cX3_lostOf 34 = .ok (.iconst 1, 1) := by decide +kernel
theorem dX3_lostOf_35 : decode cX3_lostOf 35 = .ok (.iload 5, 2) := by decide +kernel
theorem dX3_lostOf_37 : decode cX3_lostOf 37 = .ok (.ishl, 1) := by decide +kernel
theorem dX3_lostOf_38 : decode cX3_lostOf 38 = .ok (.iconst 1, 1) := by decide +kernel
theorem dX3_lostOf_39 : decode cX3_lostOf 39 = .ok (.iload 4, 2) := by decide +kernel
theorem dX3_lostOf_41 : decode cX3_lostOf 41 = .ok (.iload_n 2, 1) := by decide +kernel
theorem dX3_lostOf_42 : decode cX3_lostOf 42 = .ok (.imul, 1) := by decide +kernel
theorem dX3_lostOf_43 : decode cX3_lostOf 43 = .ok (.ishl, 1) := by decide +kernel
theorem dX3_lostOf_44 : decode cX3_lostOf 44 = .ok (.isub, 1) := by decide +kernel
theorem dX3_lostOf_45 : decode cX3_lostOf 45 = .ok (.istore 6, 2) := by decide +kernel
theorem dX3_lostOf_47 : decode cX3_lostOf 47 = .ok (.aload_n 0, 1) := by decide +kernel
theorem dX3_lostOf_48 : decode cX3_lostOf 48 = .ok (.getfield 9, 3) := by decide +kernel
theorem dX3_lostOf_51 : decode cX3_lostOf 51 = .ok (.iload_n 1, 1) := by decide +kernel
theorem dX3_lostOf_52 : decode cX3_lostOf 52 = .ok (.laload, 1) := by decide +kernel
theorem dX3_lostOf_53 : decode cX3_lostOf 53 = .ok (.l2i, 1) := by decide +kernel
theorem dX3_lostOf_54 : decode cX3_lostOf 54 = .ok (.iload 6, 2) := by decide +kernel
theorem dX3_lostOf_56 : decode cX3_lostOf 56 = .ok (.iand, 1) := by decide +kernel
theorem dX3_lostOf_57 : decode cX3_lostOf 57 = .ok (.istore 7, 2) := by decide +kernel
theorem dX3_lostOf_59 : decode cX3_lostOf 59 = .ok (.aload_n 0, 1) := by decide +kernel
theorem dX3_lostOf_60 : decode cX3_lostOf 60 = .ok (.getfield 9, 3) := by decide +kernel
theorem dX3_lostOf_63 : decode cX3_lostOf 63 = .ok (.iload_n 1, 1) := by decide +kernel
theorem dX3_lostOf_64 : decode cX3_lostOf 64 = .ok (.laload, 1) := by decide +kernel
theorem dX3_lostOf_65 : decode cX3_lostOf 65 = .ok (.bipush 24, 2) := by decide +kernel
theorem dX3_lostOf_67 : decode cX3_lostOf 67 = .ok (.iload 4, 2) := by decide +kernel
theorem dX3_lostOf_69 : decode cX3_lostOf 69 = .ok (.iadd, 1) := by decide +kernel
theorem dX3_lostOf_70 : decode cX3_lostOf 70 = .ok (.lshr, 1) := by decide +kernel
theorem dX3_lostOf_71 : decode cX3_lostOf 71 = .ok (.lconst 1, 1) := by decide +kernel
theorem dX3_lostOf_72 : decode cX3_lostOf 72 = .ok (.land, 1) := by decide +kernel
theorem dX3_lostOf_73 : decode cX3_lostOf 73 = .ok (.lconst 0, 1) := by decide +kernel
theorem dX3_lostOf_74 : decode cX3_lostOf 74 = .ok (.lcmp, 1) := by decide +kernel
theorem dX3_lostOf_75 : decode cX3_lostOf 75 = .ok (.ifCond .eq 7, 3) := by decide +kernel
theorem dX3_lostOf_78 : decode cX3_lostOf 78 = .ok (.iconst 1, 1) := by decide +kernel
theorem dX3_lostOf_79 : decode cX3_lostOf 79 = .ok (.goto 4, 3) := by decide +kernel
theorem dX3_lostOf_82 : decode cX3_lostOf 82 = .ok (.iconst 0, 1) := by decide +kernel
theorem dX3_lostOf_83 : decode cX3_lostOf 83 = .ok (.istore 8, 2) := by decide +kernel
theorem dX3_lostOf_85 : decode cX3_lostOf 85 = .ok (.iload 8, 2) := by decide +kernel
theorem dX3_lostOf_87 : decode cX3_lostOf 87 = .ok (.ifCond .ne 12, 3) := by decide +kernel
theorem dX3_lostOf_90 : decode cX3_lostOf 90 = .ok (.iload 7, 2) := by decide +kernel
theorem dX3_lostOf_92 : decode cX3_lostOf 92 = .ok (.invokestatic 31, 3) := by decide +kernel
theorem dX3_lostOf_95 : decode cX3_lostOf 95 = .ok (.iconst 1, 1) := by decide +kernel
theorem dX3_lostOf_96 : decode cX3_lostOf 96 = .ok (.if_icmp .le 8, 3) := by decide +kernel
theorem dX3_lostOf_99 : decode cX3_lostOf 99 = .ok (.iload_n 3, 1) := by decide +kernel
theorem dX3_lostOf_100 : decode cX3_lostOf 100 = .ok (.iload 7, 2) := by decide +kernel
theorem dX3_lostOf_102 : decode cX3_lostOf 102 = .ok (.ior, 1) := by decide +kernel
theorem dX3_lostOf_103 : decode cX3_lostOf 103 = .ok (.istore_n 3, 1) := by decide +kernel
theorem dX3_lostOf_104 : decode cX3_lostOf 104 = .ok (.iinc 4 1, 3) := by decide +kernel
theorem dX3_lostOf_107 : decode cX3_lostOf 107 = .ok (.goto (-102), 3) := by decide +kernel
theorem dX3_lostOf_110 : decode cX3_lostOf 110 = .ok (.iload_n 3, 1) := by decide +kernel
theorem dX3_lostOf_111 : decode cX3_lostOf 111 = .ok (.ireturn, 1) := by decide +kernel
theorem dX3_losesNothing_0 : decode cX3_losesNothing 0 = .ok (.iconst 0, 1) := by decide +kernel
theorem dX3_losesNothing_1 : decode cX3_losesNothing 1 = .ok (.istore_n 2, 1) := by decide +kernel
theorem dX3_losesNothing_2 : decode cX3_losesNothing 2 = .ok (.iload_n 2, 1) := by decide +kernel
theorem dX3_losesNothing_3 : decode cX3_losesNothing 3 = .ok (.aload_n 0, 1) := by decide +kernel
theorem dX3_losesNothing_4 : decode cX3_losesNothing 4 = .ok (.getfield 15, 3) := by decide +kernel
theorem dX3_losesNothing_7 : decode cX3_losesNothing 7 = .ok (.if_icmp .ge 20, 3) := by decide +kernel
theorem dX3_losesNothing_10 : decode cX3_losesNothing 10 = .ok (.aload_n 0, 1) := by decide +kernel
theorem dX3_losesNothing_11 : decode cX3_losesNothing 11 = .ok (.iload_n 2, 1) := by decide +kernel
theorem dX3_losesNothing_12 : decode cX3_losesNothing 12 = .ok (.iload_n 1, 1) := by decide +kernel
theorem dX3_losesNothing_13 : decode cX3_losesNothing 13 = .ok (.invokevirtual 37, 3) := by decide +kernel
theorem dX3_losesNothing_16 : decode cX3_losesNothing 16 = .ok (.ifCond .eq 5, 3) := by decide +kernel
theorem dX3_losesNothing_19 : decode cX3_losesNothing 19 = .ok (.iconst 0, 1) := by decide +kernel
theorem dX3_losesNothing_20 : decode cX3_losesNothing 20 = .ok (.ireturn, 1) := by decide +kernel
theorem dX3_losesNothing_21 : decode cX3_losesNothing 21 = .ok (.iinc 2 1, 3) := by decide +kernel
theorem dX3_losesNothing_24 : decode cX3_losesNothing 24 = .ok (.goto (-22), 3) := by decide +kernel
theorem dX3_losesNothing_27 : decode cX3_losesNothing 27 = .ok (.iconst 1, 1) := by decide +kernel
theorem dX3_losesNothing_28 : decode cX3_losesNothing 28 = .ok (.ireturn, 1) := by decide +kernel
theorem dX4_init_0 : decode cX4_init 0 = .ok (.aload_n 0, 1) := by decide +kernel
theorem dX4_init_1 : decode cX4_init 1 = .ok (.invokespecial 3, 3) := by decide +kernel
theorem dX4_init_4 : decode cX4_init 4 = .ok (.aload_n 0, 1) := by decide +kernel
theorem dX4_init_5 : decode cX4_init 5 = .ok (.bipush 6, 2) := by decide +kernel
theorem dX4_init_7 : decode cX4_init 7 = .ok (.newarray .int, 2) := by decide +kernel
theorem dX4_init_9 : decode cX4_init 9 = .ok (.putfield 9, 3) := by decide +kernel
theorem dX4_init_12 : decode cX4_init 12 = .ok (.aload_n 0, 1) := by decide +kernel
theorem dX4_init_13 : decode cX4_init 13 = .ok (.bipush 6, 2) := by decide +kernel
theorem dX4_init_15 : decode cX4_init 15 = .ok (.newarray .int, 2) := by decide +kernel
theorem dX4_init_17 : decode cX4_init 17 = .ok (.putfield 15, 3) := by decide +kernel
theorem dX4_init_20 : decode cX4_init 20 = .ok (.aload_n 0, 1) := by decide +kernel
theorem dX4_init_21 : decode cX4_init 21 = .ok (.bipush 6, 2) := by decide +kernel
theorem dX4_init_23 : decode cX4_init 23 = .ok (.newarray .int, 2) := by decide +kernel
theorem dX4_init_25 : decode cX4_init 25 = .ok (.putfield 18, 3) := by decide +kernel
theorem dX4_init_28 : decode cX4_init 28 = .ok (.aload_n 0, 1) := by decide +kernel
theorem dX4_init_29 : decode cX4_init 29 = .ok (.bipush 6, 2) := by decide +kernel
theorem dX4_init_31 : decode cX4_init 31 = .ok (.newarray .int, 2) := by decide +kernel
theorem dX4_init_33 : decode cX4_init 33 = .ok (.putfield 21, 3) := by decide +kernel
theorem dX4_init_36 : decode cX4_init 36 = .ok (.aload_n 0, 1) := by decide +kernel
theorem dX4_init_37 : decode cX4_init 37 = .ok (.bipush 6, 2) := by decide +kernel
theorem dX4_init_39 : decode cX4_init 39 = .ok (.newarray .int, 2) := by decide +kernel
theorem dX4_init_41 : decode cX4_init 41 = .ok (.putfield 24, 3) := by decide +kernel
theorem dX4_init_44 : decode cX4_init 44 = .ok (.aload_n 0, 1) := by decide +kernel
theorem dX4_init_45 : decode cX4_init 45 = .ok (.bipush 36, 2) := by decide +kernel
theorem dX4_init_47 : decode cX4_init 47 = .ok (.newarray .int, 2) := by decide +kernel
theorem dX4_init_49 : decode cX4_init 49 = .ok (.putfield 27, 3) := by decide +kernel
theorem dX4_init_52 : decode cX4_init 52 = .ok (.return_, 1) := by decide +kernel
theorem dX4_leastWait_0 : decode cX4_leastWait 0 = .ok (.aload_n 0, 1) := by decide +kernel
theorem dX4_leastWait_1 : decode cX4_leastWait 1 = .ok (.aload_n 1, 1) := by decide +kernel
theorem dX4_leastWait_2 : decode cX4_leastWait 2 = .ok (.invokevirtual 30, 3) := by decide +kernel
theorem dX4_leastWait_5 : decode cX4_leastWait 5 = .ok (.iconst 1, 1) := by decide +kernel
theorem dX4_leastWait_6 : decode cX4_leastWait 6 = .ok (.istore_n 2, 1) := by decide +kernel
theorem dX4_leastWait_7 : decode cX4_leastWait 7 = .ok (.iconst 0, 1) := by decide +kernel
theorem dX4_leastWait_8 : decode cX4_leastWait 8 = .ok (.istore_n 3, 1) := by decide +kernel
theorem dX4_leastWait_9 : decode cX4_leastWait 9 = .ok (.iload_n 3, 1) := by decide +kernel
theorem dX4_leastWait_10 : decode cX4_leastWait 10 = .ok (.aload_n 0, 1) := by decide +kernel
theorem dX4_leastWait_11 : decode cX4_leastWait 11 = .ok (.getfield 34, 3) := by decide +kernel
theorem dX4_leastWait_14 : decode cX4_leastWait 14 = .ok (.iconst 2, 1) := by decide +kernel
theorem dX4_leastWait_15 : decode cX4_leastWait 15 = .ok (.isub, 1) := by decide +kernel
theorem dX4_leastWait_16 : decode cX4_leastWait 16 = .ok (.if_icmp .ge 16, 3) := by decide +kernel
theorem dX4_leastWait_19 : decode cX4_leastWait 19 = .ok (.iload_n 2, 1) := by decide +kernel
theorem dX4_leastWait_20 : decode cX4_leastWait 20 = .ok (.aload_n 0, 1) := by decide +kernel
theorem dX4_leastWait_21 : decode cX4_leastWait 21 = .ok (.getfield 34, 3) := by decide +kernel
theorem dX4_leastWait_24 : decode cX4_leastWait 24 = .ok (.imul, 1) := by decide +kernel
theorem dX4_leastWait_25 : decode cX4_leastWait 25 = .ok (.istore_n 2, 1) := by decide +kernel
theorem dX4_leastWait_26 : decode cX4_leastWait 26 = .ok (.iinc 3 1, 3) := by decide +kernel
theorem dX4_leastWait_29 : decode cX4_leastWait 29 = .ok (.goto (-20), 3) := by decide +kernel
theorem dX4_leastWait_32 : decode cX4_leastWait 32 = .ok (.bipush (-4), 2) := by decide +kernel
theorem dX4_leastWait_34 : decode cX4_leastWait 34 = .ok (.istore_n 3, 1) := by decide +kernel
theorem dX4_leastWait_35 : decode cX4_leastWait 35 = .ok (.iconst 0, 1) := by decide +kernel
theorem dX4_leastWait_36 : decode cX4_leastWait 36 = .ok (.istore 4, 2) := by decide +kernel
theorem dX4_leastWait_38 : decode cX4_leastWait 38 = .ok (.iload 4, 2) := by decide +kernel
theorem dX4_leastWait_40 : decode cX4_leastWait 40 = .ok (.iload_n 2, 1) := by decide +kernel
theorem dX4_leastWait_41 : decode cX4_leastWait 41 = .ok (.if_icmp .ge 44, 3) := by decide +kernel
theorem dX4_leastWait_44 : decode cX4_leastWait 44 = .ok (.aload_n 0, 1) := by decide +kernel
theorem dX4_leastWait_45 : decode cX4_leastWait 45 = .ok (.aload_n 1, 1) := by decide +kernel
theorem dX4_leastWait_46 : decode cX4_leastWait 46 = .ok (.iload 4, 2) := by decide +kernel
theorem dX4_leastWait_48 : decode cX4_leastWait 48 = .ok (.invokevirtual 38, 3) := by decide +kernel
theorem dX4_leastWait_51 : decode cX4_leastWait 51 = .ok (.ifCond .eq 28, 3) := by decide +kernel
theorem dX4_leastWait_54 : decode cX4_leastWait 54 = .ok (.aload_n 0, 1) := by decide +kernel
theorem dX4_leastWait_55 : decode cX4_leastWait 55 = .ok (.aload_n 1, 1) := by decide +kernel
theorem dX4_leastWait_56 : decode cX4_leastWait 56 = .ok (.invokevirtual 42, 3) := by decide +kernel
theorem dX4_leastWait_59 : decode cX4_leastWait 59 = .ok (.istore 5, 2) := by decide +kernel
theorem dX4_leastWait_61 : decode cX4_leastWait 61 = .ok (.iload_n 3, 1) := by decide +kernel
theorem dX4_leastWait_62 : decode cX4_leastWait 62 = .ok (.bipush (-4), 2) := by decide +kernel
theorem dX4_leastWait_64 : decode cX4_leastWait 64 = .ok (.if_icmp .ne 8, 3) := by decide +kernel
theorem dX4_leastWait_67 : decode cX4_leastWait 67 = .ok (.iload 5, 2) := by decide +kernel
theorem dX4_leastWait_69 : decode cX4_leastWait 69 = .ok (.goto 9, 3) := by decide +kernel
theorem dX4_leastWait_72 : decode cX4_leastWait 72 = .ok (.iload_n 3, 1) := by decide +kernel
theorem dX4_leastWait_73 : decode cX4_leastWait 73 = .ok (.iload 5, 2) := by decide +kernel
theorem dX4_leastWait_75 : decode cX4_leastWait 75 = .ok (.invokestatic 46, 3) := by decide +kernel
theorem dX4_leastWait_78 : decode cX4_leastWait 78 = .ok (.istore_n 3, 1) := by decide +kernel
theorem dX4_leastWait_79 : decode cX4_leastWait 79 = .ok (.iinc 4 1, 3) := by decide +kernel
theorem dX4_leastWait_82 : decode cX4_leastWait 82 = .ok (.goto (-44), 3) := by decide +kernel
theorem dX4_leastWait_85 : decode cX4_leastWait 85 = .ok (.iload_n 3, 1) := by decide +kernel
theorem dX4_leastWait_86 : decode cX4_leastWait 86 = .ok (.ireturn, 1) := by decide +kernel
theorem dX4_gather_0 : decode cX4_gather 0 = .ok (.aload_n 0, 1) := by decide +kernel
theorem dX4_gather_1 : decode cX4_gather 1 = .ok (.iconst 0, 1) := by decide +kernel
theorem dX4_gather_2 : decode cX4_gather 2 = .ok (.putfield 34, 3) := by decide +kernel
theorem dX4_gather_5 : decode cX4_gather 5 = .ok (.iconst 0, 1) := by decide +kernel
theorem dX4_gather_6 : decode cX4_gather 6 = .ok (.istore_n 2, 1) := by decide +kernel
theorem dX4_gather_7 : decode cX4_gather 7 = .ok (.iload_n 2, 1) := by decide +kernel
theorem dX4_gather_8 : decode cX4_gather 8 = .ok (.aload_n 1, 1) := by decide +kernel
theorem dX4_gather_9 : decode cX4_gather 9 = .ok (.getfield 52, 3) := by decide +kernel
theorem dX4_gather_12 : decode cX4_gather 12 = .ok (.if_icmp .ge 46, 3) := by decide +kernel
theorem dX4_gather_15 : decode cX4_gather 15 = .ok (.aload_n 0, 1) := by decide +kernel
theorem dX4_gather_16 : decode cX4_gather 16 = .ok (.getfield 34, 3) := by decide +kernel
theorem dX4_gather_19 : decode cX4_gather 19 = .ok (.bipush 6, 2) := by decide +kernel
theorem dX4_gather_21 : decode cX4_gather 21 = .ok (.if_icmp .ge 37, 3) := by decide +kernel
theorem dX4_gather_24 : decode cX4_gather 24 = .ok (.aload_n 1, 1) := by decide +kernel
theorem dX4_gather_25 : decode cX4_gather 25 = .ok (.iload_n 2, 1) := by decide +kernel
theorem dX4_gather_26 : decode cX4_gather 26 = .ok (.invokevirtual 57, 3) := by decide +kernel
theorem dX4_gather_29 : decode cX4_gather 29 = .ok (.ifCond .ne 23, 3) := by decide +kernel
theorem dX4_gather_32 : decode cX4_gather 32 = .ok (.aload_n 0, 1) := by decide +kernel
theorem dX4_gather_33 : decode cX4_gather 33 = .ok (.getfield 9, 3) := by decide +kernel
theorem dX4_gather_36 : decode cX4_gather 36 = .ok (.aload_n 0, 1) := by decide +kernel
theorem dX4_gather_37 : decode cX4_gather 37 = .ok (.getfield 34, 3) := by decide +kernel
theorem dX4_gather_40 : decode cX4_gather 40 = .ok (.iload_n 2, 1) := by decide +kernel
theorem dX4_gather_41 : decode cX4_gather 41 = .ok (.iastore, 1) := by decide +kernel
theorem dX4_gather_42 : decode cX4_gather 42 = .ok (.aload_n 0, 1) := by decide +kernel
theorem dX4_gather_43 : decode cX4_gather 43 = .ok (.dup, 1) := by decide +kernel
theorem dX4_gather_44 : decode cX4_gather 44 = .ok (.getfield 34, 3) := by decide +kernel
theorem dX4_gather_47 : decode cX4_gather 47 = .ok (.iconst 1, 1) := by decide +kernel
theorem dX4_gather_48 : decode cX4_gather 48 = .ok (.iadd, 1) := by decide +kernel
theorem dX4_gather_49 : decode cX4_gather 49 = .ok (.putfield 34, 3) := by decide +kernel
theorem dX4_gather_52 : decode cX4_gather 52 = .ok (.iinc 2 1, 3) := by decide +kernel
theorem dX4_gather_55 : decode cX4_gather 55 = .ok (.goto (-48), 3) := by decide +kernel
theorem dX4_gather_58 : decode cX4_gather 58 = .ok (.return_, 1) := by decide +kernel
theorem dX4_decode_0 : decode cX4_decode 0 = .ok (.aload_n 0, 1) := by decide +kernel
theorem dX4_decode_1 : decode cX4_decode 1 = .ok (.getfield 18, 3) := by decide +kernel
theorem dX4_decode_4 : decode cX4_decode 4 = .ok (.iconst 1, 1) := by decide +kernel
theorem dX4_decode_5 : decode cX4_decode 5 = .ok (.invokestatic 61, 3) := by decide +kernel
theorem dX4_decode_8 : decode cX4_decode 8 = .ok (.iload_n 2, 1) := by decide +kernel
theorem dX4_decode_9 : decode cX4_decode 9 = .ok (.istore_n 3, 1) := by decide +kernel
theorem dX4_decode_10 : decode cX4_decode 10 = .ok (.iconst 0, 1) := by decide +kernel
theorem dX4_decode_11 : decode cX4_decode 11 = .ok (.istore 4, 2) := by decide +kernel
theorem dX4_decode_13 : decode cX4_decode 13 = .ok (.iload 4, 2) := by decide +kernel
theorem dX4_decode_15 : decode cX4_decode 15 = .ok (.aload_n 0, 1) := by decide +kernel
theorem dX4_decode_16 : decode cX4_decode 16 = .ok (.getfield 34, 3) := by decide +kernel
theorem dX4_decode_19 : decode cX4_decode 19 = .ok (.iconst 2, 1) := by decide +kernel
theorem dX4_decode_20 : decode cX4_decode 20 = .ok (.isub, 1) := by decide +kernel
theorem dX4_decode_21 : decode cX4_decode 21 = .ok (.if_icmp .ge 45, 3) := by decide +kernel
theorem dX4_decode_24 : decode cX4_decode 24 = .ok (.aload_n 0, 1) := by decide +kernel
theorem dX4_decode_25 : decode cX4_decode 25 = .ok (.getfield 15, 3) := by decide +kernel
theorem dX4_decode_28 : decode cX4_decode 28 = .ok (.iload 4, 2) := by decide +kernel
theorem dX4_decode_30 : decode cX4_decode 30 = .ok (.iload_n 3, 1) := by decide +kernel
theorem dX4_decode_31 : decode cX4_decode 31 = .ok (.aload_n 0, 1) := by decide +kernel
theorem dX4_decode_32 : decode cX4_decode 32 = .ok (.getfield 34, 3) := by decide +kernel
theorem dX4_decode_35 : decode cX4_decode 35 = .ok (.irem, 1) := by decide +kernel
theorem dX4_decode_36 : decode cX4_decode 36 = .ok (.iastore, 1) := by decide +kernel
theorem dX4_decode_37 : decode cX4_decode 37 = .ok (.iload_n 3, 1) := by decide +kernel
theorem dX4_decode_38 : decode cX4_decode 38 = .ok (.aload_n 0, 1) := by decide +kernel
theorem dX4_decode_39 : decode cX4_decode 39 = .ok (.getfield 34, 3) := by decide +kernel
theorem dX4_decode_42 : decode cX4_decode 42 = .ok (.idiv, 1) := by decide +kernel
theorem dX4_decode_43 : decode cX4_decode 43 = .ok (.istore_n 3, 1) := by decide +kernel
theorem dX4_decode_44 : decode cX4_decode 44 = .ok (.aload_n 0, 1) := by decide +kernel
theorem dX4_decode_45 : decode cX4_decode 45 = .ok (.getfield 18, 3) := by decide +kernel
theorem dX4_decode_48 : decode cX4_decode 48 = .ok (.aload_n 0, 1) := by decide +kernel
theorem dX4_decode_49 : decode cX4_decode 49 = .ok (.getfield 15, 3) := by decide +kernel
theorem dX4_decode_52 : decode cX4_decode 52 = .ok (.iload 4, 2) := by decide +kernel
theorem dX4_decode_54 : decode cX4_decode 54 = .ok (.iaload, 1) := by decide +kernel
theorem dX4_decode_55 : decode cX4_decode 55 = .ok (.dup2, 1) := by decide +kernel
theorem dX4_decode_56 : decode cX4_decode 56 = .ok (.iaload, 1) := by decide +kernel
theorem dX4_decode_57 : decode cX4_decode 57 = .ok (.iconst 1, 1) := by decide +kernel
theorem dX4_decode_58 : decode cX4_decode 58 = .ok (.iadd, 1) := by decide +kernel
theorem dX4_decode_59 : decode cX4_decode 59 = .ok (.iastore, 1) := by decide +kernel
theorem dX4_decode_60 : decode cX4_decode 60 = .ok (.iinc 4 1, 3) := by decide +kernel
theorem dX4_decode_63 : decode cX4_decode 63 = .ok (.goto (-50), 3) := by decide +kernel
theorem dX4_decode_66 : decode cX4_decode 66 = .ok (.iconst 0, 1) := by decide +kernel
theorem dX4_decode_67 : decode cX4_decode 67 = .ok (.istore 4, 2) := by decide +kernel
theorem dX4_decode_69 : decode cX4_decode 69 = .ok (.iload 4, 2) := by decide +kernel
theorem dX4_decode_71 : decode cX4_decode 71 = .ok (.aload_n 0, 1) := by decide +kernel
theorem dX4_decode_72 : decode cX4_decode 72 = .ok (.getfield 34, 3) := by decide +kernel
theorem dX4_decode_75 : decode cX4_decode 75 = .ok (.if_icmp .ge 25, 3) := by decide +kernel
theorem dX4_decode_78 : decode cX4_decode 78 = .ok (.aload_n 0, 1) := by decide +kernel
theorem dX4_decode_79 : decode cX4_decode 79 = .ok (.getfield 18, 3) := by decide +kernel
theorem dX4_decode_82 : decode cX4_decode 82 = .ok (.iload 4, 2) := by decide +kernel
theorem dX4_decode_84 : decode cX4_decode 84 = .ok (.iaload, 1) := by decide +kernel
theorem dX4_decode_85 : decode cX4_decode 85 = .ok (.aload_n 1, 1) := by decide +kernel
theorem dX4_decode_86 : decode cX4_decode 86 = .ok (.getfield 67, 3) := by decide +kernel
theorem dX4_decode_89 : decode cX4_decode 89 = .ok (.if_icmp .le 5, 3) := by decide +kernel
theorem dX4_decode_92 : decode cX4_decode 92 = .ok (.iconst 0, 1) := by decide +kernel
theorem dX4_decode_93 : decode cX4_decode 93 = .ok (.ireturn, 1) := by decide +kernel
theorem dX4_decode_94 : decode cX4_decode 94 = .ok (.iinc 4 1, 3) := by decide +kernel
theorem dX4_decode_97 : decode cX4_decode 97 = .ok (.goto (-28), 3) := by decide +kernel
theorem dX4_decode_100 : decode cX4_decode 100 = .ok (.iconst 0, 1) := by decide +kernel
theorem dX4_decode_101 : decode cX4_decode 101 = .ok (.istore 4, 2) := by decide +kernel
theorem dX4_decode_103 : decode cX4_decode 103 = .ok (.iload 4, 2) := by decide +kernel
theorem dX4_decode_105 : decode cX4_decode 105 = .ok (.aload_n 0, 1) := by decide +kernel
theorem dX4_decode_106 : decode cX4_decode 106 = .ok (.getfield 34, 3) := by decide +kernel
theorem dX4_decode_109 : decode cX4_decode 109 = .ok (.iconst 1, 1) := by decide +kernel
theorem dX4_decode_110 : decode cX4_decode 110 = .ok (.isub, 1) := by decide +kernel
theorem dX4_decode_111 : decode cX4_decode 111 = .ok (.if_icmp .ge 114, 3) := by decide +kernel
theorem dX4_decode_114 : decode cX4_decode 114 = .ok (.aload_n 0, 1) := by decide +kernel
theorem dX4_decode_115 : decode cX4_decode 115 = .ok (.getfield 21, 3) := by decide +kernel
theorem dX4_decode_118 : decode cX4_decode 118 = .ok (.iload 4, 2) := by decide +kernel
theorem dX4_decode_120 : decode cX4_decode 120 = .ok (.aload_n 0, 1) := by decide +kernel
theorem dX4_decode_121 : decode cX4_decode 121 = .ok (.invokevirtual 70, 3) := by decide +kernel
theorem dX4_decode_124 : decode cX4_decode 124 = .ok (.iastore, 1) := by decide +kernel
theorem dX4_decode_125 : decode cX4_decode 125 = .ok (.aload_n 0, 1) := by decide +kernel
theorem dX4_decode_126 : decode cX4_decode 126 = .ok (.getfield 24, 3) := by decide +kernel
theorem dX4_decode_129 : decode cX4_decode 129 = .ok (.iload 4, 2) := by decide +kernel
theorem dX4_decode_131 : decode cX4_decode 131 = .ok (.iload 4, 2) := by decide +kernel
theorem dX4_decode_133 : decode cX4_decode 133 = .ok (.aload_n 0, 1) := by decide +kernel
theorem dX4_decode_134 : decode cX4_decode 134 = .ok (.getfield 34, 3) := by decide +kernel
theorem dX4_decode_137 : decode cX4_decode 137 = .ok (.iconst 2, 1) := by decide +kernel
theorem dX4_decode_138 : decode cX4_decode 138 = .ok (.isub, 1) := by decide +kernel
theorem dX4_decode_139 : decode cX4_decode 139 = .ok (.if_icmp .ge 13, 3) := by decide +kernel
theorem dX4_decode_142 : decode cX4_decode 142 = .ok (.aload_n 0, 1) := by decide +kernel
theorem dX4_decode_143 : decode cX4_decode 143 = .ok (.getfield 15, 3) := by decide +kernel
theorem dX4_decode_146 : decode cX4_decode 146 = .ok (.iload 4, 2) := by decide +kernel
theorem dX4_decode_148 : decode cX4_decode 148 = .ok (.iaload, 1) := by decide +kernel
theorem dX4_decode_149 : decode cX4_decode 149 = .ok (.goto 7, 3) := by decide +kernel
theorem dX4_decode_152 : decode cX4_decode 152 = .ok (.aload_n 0, 1) := by decide +kernel
theorem dX4_decode_153 : decode cX4_decode 153 = .ok (.invokevirtual 70, 3) := by decide +kernel
theorem dX4_decode_156 : decode cX4_decode 156 = .ok (.iastore, 1) := by decide +kernel
theorem dX4_decode_157 : decode cX4_decode 157 = .ok (.aload_n 0, 1) := by decide +kernel
theorem dX4_decode_158 : decode cX4_decode 158 = .ok (.getfield 18, 3) := by decide +kernel
theorem dX4_decode_161 : decode cX4_decode 161 = .ok (.aload_n 0, 1) := by decide +kernel
theorem dX4_decode_162 : decode cX4_decode 162 = .ok (.getfield 24, 3) := by decide +kernel
theorem dX4_decode_165 : decode cX4_decode 165 = .ok (.iload 4, 2) := by decide +kernel
theorem dX4_decode_167 : decode cX4_decode 167 = .ok (.iaload, 1) := by decide +kernel
theorem dX4_decode_168 : decode cX4_decode 168 = .ok (.dup2, 1) := by decide +kernel
theorem dX4_decode_169 : decode cX4_decode 169 = .ok (.iaload, 1) := by decide +kernel
theorem dX4_decode_170 : decode cX4_decode 170 = .ok (.iconst 1, 1) := by decide +kernel
theorem dX4_decode_171 : decode cX4_decode 171 = .ok (.isub, 1) := by decide +kernel
theorem dX4_decode_172 : decode cX4_decode 172 = .ok (.iastore, 1) := by decide +kernel
theorem dX4_decode_173 : decode cX4_decode 173 = .ok (.aload_n 0, 1) := by decide +kernel
theorem dX4_decode_174 : decode cX4_decode 174 = .ok (.aload_n 1, 1) := by decide +kernel
theorem dX4_decode_175 : decode cX4_decode 175 = .ok (.aload_n 0, 1) := by decide +kernel
theorem dX4_decode_176 : decode cX4_decode 176 = .ok (.getfield 21, 3) := by decide +kernel
theorem dX4_decode_179 : decode cX4_decode 179 = .ok (.iload 4, 2) := by decide +kernel
theorem dX4_decode_181 : decode cX4_decode 181 = .ok (.iaload, 1) := by decide +kernel
theorem dX4_decode_182 : decode cX4_decode 182 = .ok (.aload_n 0, 1) := by decide +kernel
theorem dX4_decode_183 : decode cX4_decode 183 = .ok (.getfield 24, 3) := by decide +kernel
theorem dX4_decode_186 : decode cX4_decode 186 = .ok (.iload 4, 2) := by decide +kernel
theorem dX4_decode_188 : decode cX4_decode 188 = .ok (.iaload, 1) := by decide +kernel
theorem dX4_decode_189 : decode cX4_decode 189 = .ok (.invokevirtual 74, 3) := by decide +kernel
theorem dX4_decode_192 : decode cX4_decode 192 = .ok (.ifCond .eq 25, 3) := by decide +kernel
theorem dX4_decode_195 : decode cX4_decode 195 = .ok (.aload_n 0, 1) := by decide +kernel
theorem dX4_decode_196 : decode cX4_decode 196 = .ok (.aload_n 1, 1) := by decide +kernel
theorem dX4_decode_197 : decode cX4_decode 197 = .ok (.aload_n 0, 1) := by decide +kernel
theorem dX4_decode_198 : decode cX4_decode 198 = .ok (.getfield 24, 3) := by decide +kernel
theorem dX4_decode_201 : decode cX4_decode 201 = .ok (.iload 4, 2) := by decide +kernel
theorem dX4_decode_203 : decode cX4_decode 203 = .ok (.iaload, 1) := by decide +kernel
theorem dX4_decode_204 : decode cX4_decode 204 = .ok (.aload_n 0, 1) := by decide +kernel
theorem dX4_decode_205 : decode cX4_decode 205 = .ok (.getfield 21, 3) := by decide +kernel
theorem dX4_decode_208 : decode cX4_decode 208 = .ok (.iload 4, 2) := by decide +kernel
theorem dX4_decode_210 : decode cX4_decode 210 = .ok (.iaload, 1) := by decide +kernel
theorem dX4_decode_211 : decode cX4_decode 211 = .ok (.invokevirtual 74, 3) := by decide +kernel
theorem dX4_decode_214 : decode cX4_decode 214 = .ok (.ifCond .ne 5, 3) := by decide +kernel
theorem dX4_decode_217 : decode cX4_decode 217 = .ok (.iconst 0, 1) := by decide +kernel
theorem dX4_decode_218 : decode cX4_decode 218 = .ok (.ireturn, 1) := by decide +kernel
theorem dX4_decode_219 : decode cX4_decode 219 = .ok (.iinc 4 1, 3) := by decide +kernel
theorem dX4_decode_222 : decode cX4_decode 222 = .ok (.goto (-119), 3) := by decide +kernel
theorem dX4_decode_225 : decode cX4_decode 225 = .ok (.iconst 1, 1) := by decide +kernel
theorem dX4_decode_226 : decode cX4_decode 226 = .ok (.ireturn, 1) := by decide +kernel
theorem dX4_takeLeaf_0 : decode cX4_takeLeaf 0 = .ok (.iconst 0, 1) := by decide +kernel
theorem dX4_takeLeaf_1 : decode cX4_takeLeaf 1 = .ok (.istore_n 1, 1) := by decide +kernel
theorem dX4_takeLeaf_2 : decode cX4_takeLeaf 2 = .ok (.iload_n 1, 1) := by decide +kernel
theorem dX4_takeLeaf_3 : decode cX4_takeLeaf 3 = .ok (.aload_n 0, 1) := by decide +kernel
theorem dX4_takeLeaf_4 : decode cX4_takeLeaf 4 = .ok (.getfield 34, 3) := by decide +kernel
theorem dX4_takeLeaf_7 : decode cX4_takeLeaf 7 = .ok (.if_icmp .ge 28, 3) := by decide +kernel
theorem dX4_takeLeaf_10 : decode cX4_takeLeaf 10 = .ok (.aload_n 0, 1) := by decide +kernel
theorem dX4_takeLeaf_11 : decode cX4_takeLeaf 11 = .ok (.getfield 18, 3) := by decide +kernel
theorem dX4_takeLeaf_14 : decode cX4_takeLeaf 14 = .ok (.iload_n 1, 1) := by decide +kernel
theorem dX4_takeLeaf_15 : decode cX4_takeLeaf 15 = .ok (.iaload, 1) := by decide +kernel
theorem dX4_takeLeaf_16 : decode cX4_takeLeaf 16 = .ok (.iconst 1, 1) := by decide +kernel
theorem dX4_takeLeaf_17 : decode cX4_takeLeaf 17 = .ok (.if_icmp .ne 12, 3) := by decide +kernel
theorem dX4_takeLeaf_20 : decode cX4_takeLeaf 20 = .ok (.aload_n 0, 1) := by decide +kernel
theorem dX4_takeLeaf_21 : decode cX4_takeLeaf 21 = .ok (.getfield 18, 3) := by decide +kernel
theorem dX4_takeLeaf_24 : decode cX4_takeLeaf 24 = .ok (.iload_n 1, 1) := by decide +kernel
theorem dX4_takeLeaf_25 : decode cX4_takeLeaf 25 = .ok (.iconst 0, 1) := by decide +kernel
theorem dX4_takeLeaf_26 : decode cX4_takeLeaf 26 = .ok (.iastore, 1) := by decide +kernel
theorem dX4_takeLeaf_27 : decode cX4_takeLeaf 27 = .ok (.iload_n 1, 1) := by decide +kernel
theorem dX4_takeLeaf_28 : decode cX4_takeLeaf 28 = .ok (.ireturn, 1) := by decide +kernel
theorem dX4_takeLeaf_29 : decode cX4_takeLeaf 29 = .ok (.iinc 1 1, 3) := by decide +kernel
theorem dX4_takeLeaf_32 : decode cX4_takeLeaf 32 = .ok (.goto (-30), 3) := by decide +kernel
theorem dX4_takeLeaf_35 : decode cX4_takeLeaf 35 = .ok (.iconst 0, 1) := by decide +kernel
theorem dX4_takeLeaf_36 : decode cX4_takeLeaf 36 = .ok (.ireturn, 1) := by decide +kernel
theorem dX4_blinksOf_0 : decode cX4_blinksOf 0 = .ok (.aload_n 1, 1) := by decide +kernel
theorem dX4_blinksOf_1 : decode cX4_blinksOf 1 = .ok (.aload_n 0, 1) := by decide +kernel
theorem dX4_blinksOf_2 : decode cX4_blinksOf 2 = .ok (.getfield 9, 3) := by decide +kernel
theorem dX4_blinksOf_5 : decode cX4_blinksOf 5 = .ok (.iload_n 2, 1) := by decide +kernel
theorem dX4_blinksOf_6 : decode cX4_blinksOf 6 = .ok (.iaload, 1) := by decide +kernel
theorem dX4_blinksOf_7 : decode cX4_blinksOf 7 = .ok (.aload_n 0, 1) := by decide +kernel
theorem dX4_blinksOf_8 : decode cX4_blinksOf 8 = .ok (.getfield 9, 3) := by decide +kernel
theorem dX4_blinksOf_11 : decode cX4_blinksOf 11 = .ok (.iload_n 3, 1) := by decide +kernel
theorem dX4_blinksOf_12 : decode cX4_blinksOf 12 = .ok (.iaload, 1) := by decide +kernel
theorem dX4_blinksOf_13 : decode cX4_blinksOf 13 = .ok (.invokevirtual 78, 3) := by decide +kernel
theorem dX4_blinksOf_16 : decode cX4_blinksOf 16 = .ok (.ireturn, 1) := by decide +kernel
theorem dX4_greatestWait_0 : decode cX4_greatestWait 0 = .ok (.iconst 0, 1) := by decide +kernel
theorem dX4_greatestWait_1 : decode cX4_greatestWait 1 = .ok (.istore_n 2, 1) := by decide +kernel
theorem dX4_greatestWait_2 : decode cX4_greatestWait 2 = .ok (.iconst 1, 1) := by decide +kernel
theorem dX4_greatestWait_3 : decode cX4_greatestWait 3 = .ok (.aload_n 0, 1) := by decide +kernel
theorem dX4_greatestWait_4 : decode cX4_greatestWait 4 = .ok (.getfield 24, 3) := by decide +kernel
theorem dX4_greatestWait_7 : decode cX4_greatestWait 7 = .ok (.aload_n 0, 1) := by decide +kernel
theorem dX4_greatestWait_8 : decode cX4_greatestWait 8 = .ok (.getfield 34, 3) := by decide +kernel
theorem dX4_greatestWait_11 : decode cX4_greatestWait 11 = .ok (.iconst 2, 1) := by decide +kernel
theorem dX4_greatestWait_12 : decode cX4_greatestWait 12 = .ok (.isub, 1) := by decide +kernel
theorem dX4_greatestWait_13 : decode cX4_greatestWait 13 = .ok (.iaload, 1) := by decide +kernel
theorem dX4_greatestWait_14 : decode cX4_greatestWait 14 = .ok (.ishl, 1) := by decide +kernel
theorem dX4_greatestWait_15 : decode cX4_greatestWait 15 = .ok (.istore_n 3, 1) := by decide +kernel
theorem dX4_greatestWait_16 : decode cX4_greatestWait 16 = .ok (.aload_n 0, 1) := by decide +kernel
theorem dX4_greatestWait_17 : decode cX4_greatestWait 17 = .ok (.getfield 34, 3) := by decide +kernel
theorem dX4_greatestWait_20 : decode cX4_greatestWait 20 = .ok (.iconst 2, 1) := by decide +kernel
theorem dX4_greatestWait_21 : decode cX4_greatestWait 21 = .ok (.isub, 1) := by decide +kernel
theorem dX4_greatestWait_22 : decode cX4_greatestWait 22 = .ok (.istore 4, 2) := by decide +kernel
theorem dX4_greatestWait_24 : decode cX4_greatestWait 24 = .ok (.iload 4, 2) := by decide +kernel
theorem dX4_greatestWait_26 : decode cX4_greatestWait 26 = .ok (.ifCond .lt 46, 3) := by decide +kernel
theorem dX4_greatestWait_29 : decode cX4_greatestWait 29 = .ok (.iload_n 2, 1) := by decide +kernel
theorem dX4_greatestWait_30 : decode cX4_greatestWait 30 = .ok (.aload_n 0, 1) := by decide +kernel
theorem dX4_greatestWait_31 : decode cX4_greatestWait 31 = .ok (.aload_n 1, 1) := by decide +kernel
theorem dX4_greatestWait_32 : decode cX4_greatestWait 32 = .ok (.aload_n 0, 1) := by decide +kernel
theorem dX4_greatestWait_33 : decode cX4_greatestWait 33 = .ok (.getfield 21, 3) := by decide +kernel
theorem dX4_greatestWait_36 : decode cX4_greatestWait 36 = .ok (.iload 4, 2) := by decide +kernel
theorem dX4_greatestWait_38 : decode cX4_greatestWait 38 = .ok (.iaload, 1) := by decide +kernel
theorem dX4_greatestWait_39 : decode cX4_greatestWait 39 = .ok (.aload_n 0, 1) := by decide +kernel
theorem dX4_greatestWait_40 : decode cX4_greatestWait 40 = .ok (.getfield 24, 3) := by decide +kernel
theorem dX4_greatestWait_43 : decode cX4_greatestWait 43 = .ok (.iload 4, 2) := by decide +kernel
theorem dX4_greatestWait_45 : decode cX4_greatestWait 45 = .ok (.iaload, 1) := by decide +kernel
theorem dX4_greatestWait_46 : decode cX4_greatestWait 46 = .ok (.iload_n 3, 1) := by decide +kernel
theorem dX4_greatestWait_47 : decode cX4_greatestWait 47 = .ok (.invokevirtual 81, 3) := by decide +kernel
theorem dX4_greatestWait_50 : decode cX4_greatestWait 50 = .ok (.invokestatic 85, 3) := by decide +kernel
theorem dX4_greatestWait_53 : decode cX4_greatestWait 53 = .ok (.istore_n 2, 1) := by decide +kernel
theorem dX4_greatestWait_54 : decode cX4_greatestWait 54 = .ok (.iload_n 3, 1) := by decide +kernel
theorem dX4_greatestWait_55 : decode cX4_greatestWait 55 = .ok (.iconst 1, 1) := by decide +kernel
theorem dX4_greatestWait_56 : decode cX4_greatestWait 56 = .ok (.aload_n 0, 1) := by decide +kernel
theorem dX4_greatestWait_57 : decode cX4_greatestWait 57 = .ok (.getfield 21, 3) := by decide +kernel
theorem dX4_greatestWait_60 : decode cX4_greatestWait 60 = .ok (.iload 4, 2) := by decide +kernel
theorem dX4_greatestWait_62 : decode cX4_greatestWait 62 = .ok (.iaload, 1) := by decide +kernel
theorem dX4_greatestWait_63 : decode cX4_greatestWait 63 = .ok (.ishl, 1) := by decide +kernel
theorem dX4_greatestWait_64 : decode cX4_greatestWait 64 = .ok (.ior, 1) := by decide +kernel
theorem dX4_greatestWait_65 : decode cX4_greatestWait 65 = .ok (.istore_n 3, 1) := by decide +kernel
theorem dX4_greatestWait_66 : decode cX4_greatestWait 66 = .ok (.iinc 4 (-1), 3) := by decide +kernel
theorem dX4_greatestWait_69 : decode cX4_greatestWait 69 = .ok (.goto (-45), 3) := by decide +kernel
theorem dX4_greatestWait_72 : decode cX4_greatestWait 72 = .ok (.iload_n 2, 1) := by decide +kernel
theorem dX4_greatestWait_73 : decode cX4_greatestWait 73 = .ok (.ireturn, 1) := by decide +kernel
theorem dX4_join_0 : decode cX4_join 0 = .ok (.aload_n 0, 1) := by decide +kernel
theorem dX4_join_1 : decode cX4_join 1 = .ok (.aload_n 1, 1) := by decide +kernel
theorem dX4_join_2 : decode cX4_join 2 = .ok (.iload_n 2, 1) := by decide +kernel
theorem dX4_join_3 : decode cX4_join 3 = .ok (.iload_n 3, 1) := by decide +kernel
theorem dX4_join_4 : decode cX4_join 4 = .ok (.invokevirtual 74, 3) := by decide +kernel
theorem dX4_join_7 : decode cX4_join 7 = .ok (.istore 5, 2) := by decide +kernel
theorem dX4_join_9 : decode cX4_join 9 = .ok (.aload_n 0, 1) := by decide +kernel
theorem dX4_join_10 : decode cX4_join 10 = .ok (.aload_n 1, 1) := by decide +kernel
theorem dX4_join_11 : decode cX4_join 11 = .ok (.iload_n 3, 1) := by decide +kernel
theorem dX4_join_12 : decode cX4_join 12 = .ok (.iload_n 2, 1) := by decide +kernel
theorem dX4_join_13 : decode cX4_join 13 = .ok (.invokevirtual 74, 3) := by decide +kernel
theorem dX4_join_16 : decode cX4_join 16 = .ok (.istore 6, 2) := by decide +kernel
theorem dX4_join_18 : decode cX4_join 18 = .ok (.iconst 0, 1) := by decide +kernel
theorem dX4_join_19 : decode cX4_join 19 = .ok (.istore 7, 2) := by decide +kernel
theorem dX4_join_21 : decode cX4_join 21 = .ok (.iconst 0, 1) := by decide +kernel
theorem dX4_join_22 : decode cX4_join 22 = .ok (.istore 8, 2) := by decide +kernel
theorem dX4_join_24 : decode cX4_join 24 = .ok (.iload 8, 2) := by decide +kernel
theorem dX4_join_26 : decode cX4_join 26 = .ok (.aload_n 0, 1) := by decide +kernel
theorem dX4_join_27 : decode cX4_join 27 = .ok (.getfield 34, 3) := by decide +kernel
theorem dX4_join_30 : decode cX4_join 30 = .ok (.if_icmp .ge 142, 3) := by decide +kernel
theorem dX4_join_33 : decode cX4_join 33 = .ok (.iload 4, 2) := by decide +kernel
theorem dX4_join_35 : decode cX4_join 35 = .ok (.iload 8, 2) := by decide +kernel
theorem dX4_join_37 : decode cX4_join 37 = .ok (.ishr, 1) := by decide +kernel
theorem dX4_join_38 : decode cX4_join 38 = .ok (.iconst 1, 1) := by decide +kernel
theorem dX4_join_39 : decode cX4_join 39 = .ok (.iand, 1) := by decide +kernel
theorem dX4_join_40 : decode cX4_join 40 = .ok (.ifCond .eq 126, 3) := by decide +kernel
theorem dX4_join_43 : decode cX4_join 43 = .ok (.iload 8, 2) := by decide +kernel
theorem dX4_join_45 : decode cX4_join 45 = .ok (.iload_n 3, 1) := by decide +kernel
theorem dX4_join_46 : decode cX4_join 46 = .ok (.if_icmp .ne 7, 3) := by decide +kernel
theorem dX4_join_49 : decode cX4_join 49 = .ok (.iconst 1, 1) := by decide +kernel
theorem dX4_join_50 : decode cX4_join 50 = .ok (.goto 4, 3) := by decide +kernel
theorem dX4_join_53 : decode cX4_join 53 = .ok (.iconst 0, 1) := by decide +kernel
theorem dX4_join_54 : decode cX4_join 54 = .ok (.istore 9, 2) := by decide +kernel
theorem dX4_join_56 : decode cX4_join 56 = .ok (.aload_n 0, 1) := by decide +kernel
theorem dX4_join_57 : decode cX4_join 57 = .ok (.getfield 27, 3) := by decide +kernel
theorem dX4_join_60 : decode cX4_join 60 = .ok (.iload_n 2, 1) := by decide +kernel
theorem dX4_join_61 : decode cX4_join 61 = .ok (.bipush 6, 2) := by decide +kernel
theorem dX4_join_63 : decode cX4_join 63 = .ok (.imul, 1) := by decide +kernel
theorem dX4_join_64 : decode cX4_join 64 = .ok (.iload 8, 2) := by decide +kernel
theorem dX4_join_66 : decode cX4_join 66 = .ok (.iadd, 1) := by decide +kernel
theorem dX4_join_67 : decode cX4_join 67 = .ok (.iload 5, 2) := by decide +kernel
theorem dX4_join_69 : decode cX4_join 69 = .ok (.iload 9, 2) := by decide +kernel
theorem dX4_join_71 : decode cX4_join 71 = .ok (.ifCond .eq 7, 3) := by decide +kernel
theorem dX4_join_74 : decode cX4_join 74 = .ok (.iconst 0, 1) := by decide +kernel
theorem dX4_join_75 : decode cX4_join 75 = .ok (.goto 15, 3) := by decide +kernel
theorem dX4_join_78 : decode cX4_join 78 = .ok (.aload_n 0, 1) := by decide +kernel
theorem dX4_join_79 : decode cX4_join 79 = .ok (.getfield 27, 3) := by decide +kernel
theorem dX4_join_82 : decode cX4_join 82 = .ok (.iload_n 3, 1) := by decide +kernel
theorem dX4_join_83 : decode cX4_join 83 = .ok (.bipush 6, 2) := by decide +kernel
theorem dX4_join_85 : decode cX4_join 85 = .ok (.imul, 1) := by decide +kernel
theorem dX4_join_86 : decode cX4_join 86 = .ok (.iload 8, 2) := by decide +kernel
theorem dX4_join_88 : decode cX4_join 88 = .ok (.iadd, 1) := by decide +kernel
theorem dX4_join_89 : decode cX4_join 89 = .ok (.iaload, 1) := by decide +kernel
theorem dX4_join_90 : decode cX4_join 90 = .ok (.iadd, 1) := by decide +kernel
theorem dX4_join_91 : decode cX4_join 91 = .ok (.iastore, 1) := by decide +kernel
theorem dX4_join_92 : decode cX4_join 92 = .ok (.aload_n 0, 1) := by decide +kernel
theorem dX4_join_93 : decode cX4_join 93 = .ok (.getfield 27, 3) := by decide +kernel
theorem dX4_join_96 : decode cX4_join 96 = .ok (.iload 8, 2) := by decide +kernel
theorem dX4_join_98 : decode cX4_join 98 = .ok (.bipush 6, 2) := by decide +kernel
theorem dX4_join_100 : decode cX4_join 100 = .ok (.imul, 1) := by decide +kernel
theorem dX4_join_101 : decode cX4_join 101 = .ok (.iload_n 2, 1) := by decide +kernel
theorem dX4_join_102 : decode cX4_join 102 = .ok (.iadd, 1) := by decide +kernel
theorem dX4_join_103 : decode cX4_join 103 = .ok (.iload 6, 2) := by decide +kernel
theorem dX4_join_105 : decode cX4_join 105 = .ok (.iload 9, 2) := by decide +kernel
theorem dX4_join_107 : decode cX4_join 107 = .ok (.ifCond .eq 7, 3) := by decide +kernel
theorem dX4_join_110 : decode cX4_join 110 = .ok (.iconst 0, 1) := by decide +kernel
theorem dX4_join_111 : decode cX4_join 111 = .ok (.goto 15, 3) := by decide +kernel
theorem dX4_join_114 : decode cX4_join 114 = .ok (.aload_n 0, 1) := by decide +kernel
theorem dX4_join_115 : decode cX4_join 115 = .ok (.getfield 27, 3) := by decide +kernel
theorem dX4_join_118 : decode cX4_join 118 = .ok (.iload 8, 2) := by decide +kernel
theorem dX4_join_120 : decode cX4_join 120 = .ok (.bipush 6, 2) := by decide +kernel
theorem dX4_join_122 : decode cX4_join 122 = .ok (.imul, 1) := by decide +kernel
theorem dX4_join_123 : decode cX4_join 123 = .ok (.iload_n 3, 1) := by decide +kernel
theorem dX4_join_124 : decode cX4_join 124 = .ok (.iadd, 1) := by decide +kernel
theorem dX4_join_125 : decode cX4_join 125 = .ok (.iaload, 1) := by decide +kernel
theorem dX4_join_126 : decode cX4_join 126 = .ok (.iadd, 1) := by decide +kernel
theorem dX4_join_127 : decode cX4_join 127 = .ok (.iastore, 1) := by decide +kernel
theorem dX4_join_128 : decode cX4_join 128 = .ok (.iload 7, 2) := by decide +kernel
theorem dX4_join_130 : decode cX4_join 130 = .ok (.aload_n 0, 1) := by decide +kernel
theorem dX4_join_131 : decode cX4_join 131 = .ok (.getfield 27, 3) := by decide +kernel
theorem dX4_join_134 : decode cX4_join 134 = .ok (.iload_n 2, 1) := by decide +kernel
theorem dX4_join_135 : decode cX4_join 135 = .ok (.bipush 6, 2) := by decide +kernel
theorem dX4_join_137 : decode cX4_join 137 = .ok (.imul, 1) := by decide +kernel
theorem dX4_join_138 : decode cX4_join 138 = .ok (.iload 8, 2) := by decide +kernel
theorem dX4_join_140 : decode cX4_join 140 = .ok (.iadd, 1) := by decide +kernel
theorem dX4_join_141 : decode cX4_join 141 = .ok (.iaload, 1) := by decide +kernel
theorem dX4_join_142 : decode cX4_join 142 = .ok (.invokestatic 85, 3) := by decide +kernel
theorem dX4_join_145 : decode cX4_join 145 = .ok (.istore 7, 2) := by decide +kernel
theorem dX4_join_147 : decode cX4_join 147 = .ok (.iload 7, 2) := by decide +kernel
theorem dX4_join_149 : decode cX4_join 149 = .ok (.aload_n 0, 1) := by decide +kernel
theorem dX4_join_150 : decode cX4_join 150 = .ok (.getfield 27, 3) := by decide +kernel
theorem dX4_join_153 : decode cX4_join 153 = .ok (.iload 8, 2) := by decide +kernel
theorem dX4_join_155 : decode cX4_join 155 = .ok (.bipush 6, 2) := by decide +kernel
theorem dX4_join_157 : decode cX4_join 157 = .ok (.imul, 1) := by decide +kernel
theorem dX4_join_158 : decode cX4_join 158 = .ok (.iload_n 2, 1) := by decide +kernel
theorem dX4_join_159 : decode cX4_join 159 = .ok (.iadd, 1) := by decide +kernel
theorem dX4_join_160 : decode cX4_join 160 = .ok (.iaload, 1) := by decide +kernel
theorem dX4_join_161 : decode cX4_join 161 = .ok (.invokestatic 85, 3) := by decide +kernel
theorem dX4_join_164 : decode cX4_join 164 = .ok (.istore 7, 2) := by decide +kernel
theorem dX4_join_166 : decode cX4_join 166 = .ok (.iinc 8 1, 3) := by decide +kernel
theorem dX4_join_169 : decode cX4_join 169 = .ok (.goto (-145), 3) := by decide +kernel
theorem dX4_join_172 : decode cX4_join 172 = .ok (.iload 7, 2) := by decide +kernel
theorem dX4_join_174 : decode cX4_join 174 = .ok (.ireturn, 1) := by decide +kernel
theorem dX5_init_0 : decode cX5_init 0 = .ok (.aload_n 0, 1) := by decide +kernel
theorem dX5_init_1 : decode cX5_init 1 = .ok (.invokespecial 3, 3) := by decide +kernel
theorem dX5_init_4 : decode cX5_init 4 = .ok (.aload_n 0, 1) := by decide +kernel
theorem dX5_init_5 : decode cX5_init 5 = .ok (.bipush 64, 2) := by decide +kernel
theorem dX5_init_7 : decode cX5_init 7 = .ok (.newarray .int, 2) := by decide +kernel
theorem dX5_init_9 : decode cX5_init 9 = .ok (.putfield 9, 3) := by decide +kernel
theorem dX5_init_12 : decode cX5_init 12 = .ok (.return_, 1) := by decide +kernel
theorem dX5_take_0 : decode cX5_take 0 = .ok (.aload_n 0, 1) := by decide +kernel
theorem dX5_take_1 : decode cX5_take 1 = .ok (.aload_n 1, 1) := by decide +kernel
theorem dX5_take_2 : decode cX5_take 2 = .ok (.getfield 15, 3) := by decide +kernel
theorem dX5_take_5 : decode cX5_take 5 = .ok (.putfield 15, 3) := by decide +kernel
theorem dX5_take_8 : decode cX5_take 8 = .ok (.aload_n 1, 1) := by decide +kernel
theorem dX5_take_9 : decode cX5_take 9 = .ok (.getfield 9, 3) := by decide +kernel
theorem dX5_take_12 : decode cX5_take 12 = .ok (.iconst 0, 1) := by decide +kernel
theorem dX5_take_13 : decode cX5_take 13 = .ok (.aload_n 0, 1) := by decide +kernel
theorem dX5_take_14 : decode cX5_take 14 = .ok (.getfield 9, 3) := by decide +kernel
theorem dX5_take_17 : decode cX5_take 17 = .ok (.iconst 0, 1) := by decide +kernel
theorem dX5_take_18 : decode cX5_take 18 = .ok (.aload_n 0, 1) := by decide +kernel
theorem dX5_take_19 : decode cX5_take 19 = .ok (.getfield 9, 3) := by decide +kernel
theorem dX5_take_22 : decode cX5_take 22 = .ok (.arraylength, 1) := by decide +kernel
theorem dX5_take_23 : decode cX5_take 23 = .ok (.invokestatic 19, 3) := by decide +kernel
theorem dX5_take_26 : decode cX5_take 26 = .ok (.return_, 1) := by decide +kernel
theorem dX5_append_0 : decode cX5_append 0 = .ok (.iconst 0, 1) := by decide +kernel
theorem dX5_append_1 : decode cX5_append 1 = .ok (.istore 4, 2) := by decide +kernel
theorem dX5_append_3 : decode cX5_append 3 = .ok (.iload 4, 2) := by decide +kernel
theorem dX5_append_5 : decode cX5_append 5 = .ok (.iload_n 2, 1) := by decide +kernel
theorem dX5_append_6 : decode cX5_append 6 = .ok (.if_icmp .ge 48, 3) := by decide +kernel
theorem dX5_append_9 : decode cX5_append 9 = .ok (.aload_n 0, 1) := by decide +kernel
theorem dX5_append_10 : decode cX5_append 10 = .ok (.getfield 9, 3) := by decide +kernel
theorem dX5_append_13 : decode cX5_append 13 = .ok (.aload_n 0, 1) := by decide +kernel
theorem dX5_append_14 : decode cX5_append 14 = .ok (.getfield 15, 3) := by decide +kernel
theorem dX5_append_17 : decode cX5_append 17 = .ok (.iload_n 1, 1) := by decide +kernel
theorem dX5_append_18 : decode cX5_append 18 = .ok (.iload_n 3, 1) := by decide +kernel
theorem dX5_append_19 : decode cX5_append 19 = .ok (.ifCond .eq 16, 3) := by decide +kernel
theorem dX5_append_22 : decode cX5_append 22 = .ok (.iload 4, 2) := by decide +kernel
theorem dX5_append_24 : decode cX5_append 24 = .ok (.iload_n 2, 1) := by decide +kernel
theorem dX5_append_25 : decode cX5_append 25 = .ok (.iconst 1, 1) := by decide +kernel
theorem dX5_append_26 : decode cX5_append 26 = .ok (.isub, 1) := by decide +kernel
theorem dX5_append_27 : decode cX5_append 27 = .ok (.if_icmp .ne 8, 3) := by decide +kernel
theorem dX5_append_30 : decode cX5_append 30 = .ok (.bipush 10, 2) := by decide +kernel
theorem dX5_append_32 : decode cX5_append 32 = .ok (.goto 4, 3) := by decide +kernel
theorem dX5_append_35 : decode cX5_append 35 = .ok (.iconst 0, 1) := by decide +kernel
theorem dX5_append_36 : decode cX5_append 36 = .ok (.iadd, 1) := by decide +kernel
theorem dX5_append_37 : decode cX5_append 37 = .ok (.iastore, 1) := by decide +kernel
theorem dX5_append_38 : decode cX5_append 38 = .ok (.aload_n 0, 1) := by decide +kernel
theorem dX5_append_39 : decode cX5_append 39 = .ok (.dup, 1) := by decide +kernel
theorem dX5_append_40 : decode cX5_append 40 = .ok (.getfield 15, 3) := by decide +kernel
theorem dX5_append_43 : decode cX5_append 43 = .ok (.iconst 1, 1) := by decide +kernel
theorem dX5_append_44 : decode cX5_append 44 = .ok (.iadd, 1) := by decide +kernel
theorem dX5_append_45 : decode cX5_append 45 = .ok (.putfield 15, 3) := by decide +kernel
theorem dX5_append_48 : decode cX5_append 48 = .ok (.iinc 4 1, 3) := by decide +kernel
theorem dX5_append_51 : decode cX5_append 51 = .ok (.goto (-48), 3) := by decide +kernel
theorem dX5_append_54 : decode cX5_append 54 = .ok (.return_, 1) := by decide +kernel
theorem dX5_breaths_0 : decode cX5_breaths 0 = .ok (.iconst 0, 1) := by decide +kernel
theorem dX5_breaths_1 : decode cX5_breaths 1 = .ok (.istore_n 1, 1) := by decide +kernel
theorem dX5_breaths_2 : decode cX5_breaths 2 = .ok (.iconst 0, 1) := by decide +kernel
theorem dX5_breaths_3 : decode cX5_breaths 3 = .ok (.istore_n 2, 1) := by decide +kernel
theorem dX5_breaths_4 : decode cX5_breaths 4 = .ok (.iload_n 2, 1) := by decide +kernel
theorem dX5_breaths_5 : decode cX5_breaths 5 = .ok (.aload_n 0, 1) := by decide +kernel
theorem dX5_breaths_6 : decode cX5_breaths 6 = .ok (.getfield 15, 3) := by decide +kernel
theorem dX5_breaths_9 : decode cX5_breaths 9 = .ok (.if_icmp .ge 28, 3) := by decide +kernel
theorem dX5_breaths_12 : decode cX5_breaths 12 = .ok (.iload_n 1, 1) := by decide +kernel
theorem dX5_breaths_13 : decode cX5_breaths 13 = .ok (.aload_n 0, 1) := by decide +kernel
theorem dX5_breaths_14 : decode cX5_breaths 14 = .ok (.getfield 9, 3) := by decide +kernel
theorem dX5_breaths_17 : decode cX5_breaths 17 = .ok (.iload_n 2, 1) := by decide +kernel
theorem dX5_breaths_18 : decode cX5_breaths 18 = .ok (.iaload, 1) := by decide +kernel
theorem dX5_breaths_19 : decode cX5_breaths 19 = .ok (.bipush 10, 2) := by decide +kernel
theorem dX5_breaths_21 : decode cX5_breaths 21 = .ok (.if_icmp .lt 7, 3) := by decide +kernel
theorem dX5_breaths_24 : decode cX5_breaths 24 = .ok (.iconst 1, 1) := by decide +kernel
theorem dX5_breaths_25 : decode cX5_breaths 25 = .ok (.goto 4, 3) := by decide +kernel
theorem dX5_breaths_28 : decode cX5_breaths 28 = .ok (.iconst 0, 1) := by decide +kernel
theorem dX5_breaths_29 : decode cX5_breaths 29 = .ok (.iadd, 1) := by decide +kernel
theorem dX5_breaths_30 : decode cX5_breaths 30 = .ok (.istore_n 1, 1) := by decide +kernel
theorem dX5_breaths_31 : decode cX5_breaths 31 = .ok (.iinc 2 1, 3) := by decide +kernel
theorem dX5_breaths_34 : decode cX5_breaths 34 = .ok (.goto (-30), 3) := by decide +kernel
theorem dX5_breaths_37 : decode cX5_breaths 37 = .ok (.iload_n 1, 1) := by decide +kernel
theorem dX5_breaths_38 : decode cX5_breaths 38 = .ok (.ireturn, 1) := by decide +kernel
theorem dX5_behindLastBreath_0 : decode cX5_behindLastBreath 0 = .ok (.iload_n 1, 1) := by decide +kernel
theorem dX5_behindLastBreath_1 : decode cX5_behindLastBreath 1 = .ok (.aload_n 0, 1) := by decide +kernel
theorem dX5_behindLastBreath_2 : decode cX5_behindLastBreath 2 = .ok (.getfield 15, 3) := by decide +kernel
theorem dX5_behindLastBreath_5 : decode cX5_behindLastBreath 5 = .ok (.invokestatic 25, 3) := by decide +kernel
theorem dX5_behindLastBreath_8 : decode cX5_behindLastBreath 8 = .ok (.istore_n 2, 1) := by decide +kernel
theorem dX5_behindLastBreath_9 : decode cX5_behindLastBreath 9 = .ok (.iload_n 2, 1) := by decide +kernel
theorem dX5_behindLastBreath_10 : decode cX5_behindLastBreath 10 = .ok (.ifCond .le 24, 3) := by decide +kernel
theorem dX5_behindLastBreath_13 : decode cX5_behindLastBreath 13 = .ok (.aload_n 0, 1) := by decide +kernel
theorem dX5_behindLastBreath_14 : decode cX5_behindLastBreath 14 = .ok (.getfield 9, 3) := by decide +kernel
theorem dX5_behindLastBreath_17 : decode cX5_behindLastBreath 17 = .ok (.iload_n 2, 1) := by decide +kernel
theorem dX5_behindLastBreath_18 : decode cX5_behindLastBreath 18 = .ok (.iconst 1, 1) := by decide +kernel
theorem dX5_behindLastBreath_19 : decode cX5_behindLastBreath 19 = .ok (.isub, 1) := by decide +kernel
theorem dX5_behindLastBreath_20 : decode cX5_behindLastBreath 20 = .ok (.iaload, 1) := by decide +kernel
theorem dX5_behindLastBreath_21 : decode cX5_behindLastBreath 21 = .ok (.bipush 10, 2) := by decide +kernel
theorem dX5_behindLastBreath_23 : decode cX5_behindLastBreath 23 = .ok (.if_icmp .lt 5, 3) := by decide +kernel
theorem dX5_behindLastBreath_26 : decode cX5_behindLastBreath 26 = .ok (.iload_n 2, 1) := by decide +kernel
theorem dX5_behindLastBreath_27 : decode cX5_behindLastBreath 27 = .ok (.ireturn, 1) := by decide +kernel
theorem dX5_behindLastBreath_28 : decode cX5_behindLastBreath 28 = .ok (.iinc 2 (-1), 3) := by decide +kernel
theorem dX5_behindLastBreath_31 : decode cX5_behindLastBreath 31 = .ok (.goto (-22), 3) := by decide +kernel
theorem dX5_behindLastBreath_34 : decode cX5_behindLastBreath 34 = .ok (.iconst 0, 1) := by decide +kernel
theorem dX5_behindLastBreath_35 : decode cX5_behindLastBreath 35 = .ok (.ireturn, 1) := by decide +kernel
theorem dX5_clashesAt_0 : decode cX5_clashesAt 0 = .ok (.iconst 0, 1) := by decide +kernel
theorem dX5_clashesAt_1 : decode cX5_clashesAt 1 = .ok (.istore_n 3, 1) := by decide +kernel
theorem dX5_clashesAt_2 : decode cX5_clashesAt 2 = .ok (.iload_n 1, 1) := by decide +kernel
theorem dX5_clashesAt_3 : decode cX5_clashesAt 3 = .ok (.istore 4, 2) := by decide +kernel
theorem dX5_clashesAt_5 : decode cX5_clashesAt 5 = .ok (.iload 4, 2) := by decide +kernel
theorem dX5_clashesAt_7 : decode cX5_clashesAt 7 = .ok (.aload_n 0, 1) := by decide +kernel
theorem dX5_clashesAt_8 : decode cX5_clashesAt 8 = .ok (.getfield 15, 3) := by decide +kernel
theorem dX5_clashesAt_11 : decode cX5_clashesAt 11 = .ok (.if_icmp .ge 63, 3) := by decide +kernel
theorem dX5_clashesAt_14 : decode cX5_clashesAt 14 = .ok (.aload_n 0, 1) := by decide +kernel
theorem dX5_clashesAt_15 : decode cX5_clashesAt 15 = .ok (.getfield 9, 3) := by decide +kernel
theorem dX5_clashesAt_18 : decode cX5_clashesAt 18 = .ok (.iload 4, 2) := by decide +kernel
theorem dX5_clashesAt_20 : decode cX5_clashesAt 20 = .ok (.iaload, 1) := by decide +kernel
theorem dX5_clashesAt_21 : decode cX5_clashesAt 21 = .ok (.bipush 10, 2) := by decide +kernel
theorem dX5_clashesAt_23 : decode cX5_clashesAt 23 = .ok (.irem, 1) := by decide +kernel
theorem dX5_clashesAt_24 : decode cX5_clashesAt 24 = .ok (.istore 5, 2) := by decide +kernel
theorem dX5_clashesAt_26 : decode cX5_clashesAt 26 = .ok (.aload_n 0, 1) := by decide +kernel
theorem dX5_clashesAt_27 : decode cX5_clashesAt 27 = .ok (.getfield 9, 3) := by decide +kernel
theorem dX5_clashesAt_30 : decode cX5_clashesAt 30 = .ok (.iload 4, 2) := by decide +kernel
theorem dX5_clashesAt_32 : decode cX5_clashesAt 32 = .ok (.iload_n 1, 1) := by decide +kernel
theorem dX5_clashesAt_33 : decode cX5_clashesAt 33 = .ok (.isub, 1) := by decide +kernel
theorem dX5_clashesAt_34 : decode cX5_clashesAt 34 = .ok (.iaload, 1) := by decide +kernel
theorem dX5_clashesAt_35 : decode cX5_clashesAt 35 = .ok (.bipush 10, 2) := by decide +kernel
theorem dX5_clashesAt_37 : decode cX5_clashesAt 37 = .ok (.irem, 1) := by decide +kernel
theorem dX5_clashesAt_38 : decode cX5_clashesAt 38 = .ok (.istore 6, 2) := by decide +kernel
theorem dX5_clashesAt_40 : decode cX5_clashesAt 40 = .ok (.iload 5, 2) := by decide +kernel
theorem dX5_clashesAt_42 : decode cX5_clashesAt 42 = .ok (.ifCond .eq 26, 3) := by decide +kernel
theorem dX5_clashesAt_45 : decode cX5_clashesAt 45 = .ok (.iload 6, 2) := by decide +kernel
theorem dX5_clashesAt_47 : decode cX5_clashesAt 47 = .ok (.ifCond .eq 21, 3) := by decide +kernel
theorem dX5_clashesAt_50 : decode cX5_clashesAt 50 = .ok (.iload_n 2, 1) := by decide +kernel
theorem dX5_clashesAt_51 : decode cX5_clashesAt 51 = .ok (.iload 5, 2) := by decide +kernel
theorem dX5_clashesAt_53 : decode cX5_clashesAt 53 = .ok (.iload 6, 2) := by decide +kernel
theorem dX5_clashesAt_55 : decode cX5_clashesAt 55 = .ok (.isub, 1) := by decide +kernel
theorem dX5_clashesAt_56 : decode cX5_clashesAt 56 = .ok (.invokestatic 31, 3) := by decide +kernel
theorem dX5_clashesAt_59 : decode cX5_clashesAt 59 = .ok (.ishr, 1) := by decide +kernel
theorem dX5_clashesAt_60 : decode cX5_clashesAt 60 = .ok (.iconst 1, 1) := by decide +kernel
theorem dX5_clashesAt_61 : decode cX5_clashesAt 61 = .ok (.iand, 1) := by decide +kernel
theorem dX5_clashesAt_62 : decode cX5_clashesAt 62 = .ok (.ifCond .ne 6, 3) := by decide +kernel
theorem dX5_clashesAt_65 : decode cX5_clashesAt 65 = .ok (.iinc 3 1, 3) := by decide +kernel
theorem dX5_clashesAt_68 : decode cX5_clashesAt 68 = .ok (.iinc 4 1, 3) := by decide +kernel
theorem dX5_clashesAt_71 : decode cX5_clashesAt 71 = .ok (.goto (-66), 3) := by decide +kernel
theorem dX5_clashesAt_74 : decode cX5_clashesAt 74 = .ok (.iload_n 3, 1) := by decide +kernel
theorem dX5_clashesAt_75 : decode cX5_clashesAt 75 = .ok (.ireturn, 1) := by decide +kernel
theorem dX6_init_0 : decode cX6_init 0 = .ok (.aload_n 0, 1) := by decide +kernel
theorem dX6_init_1 : decode cX6_init 1 = .ok (.invokespecial 3, 3) := by decide +kernel
theorem dX6_init_4 : decode cX6_init 4 = .ok (.aload_n 0, 1) := by decide +kernel
theorem dX6_init_5 : decode cX6_init 5 = .ok (.sipush 500, 3) := by decide +kernel
theorem dX6_init_8 : decode cX6_init 8 = .ok (.putfield 9, 3) := by decide +kernel
theorem dX6_init_11 : decode cX6_init 11 = .ok (.aload_n 0, 1) := by decide +kernel
theorem dX6_init_12 : decode cX6_init 12 = .ok (.bipush 7, 2) := by decide +kernel
theorem dX6_init_14 : decode cX6_init 14 = .ok (.putfield 15, 3) := by decide +kernel
theorem dX6_init_17 : decode cX6_init 17 = .ok (.aload_n 0, 1) := by decide +kernel
theorem dX6_init_18 : decode cX6_init 18 = .ok (.bipush 48, 2) := by decide +kernel
theorem dX6_init_20 : decode cX6_init 20 = .ok (.newarray .int, 2) := by decide +kernel
theorem dX6_init_22 : decode cX6_init 22 = .ok (.putfield 18, 3) := by decide +kernel
theorem dX6_init_25 : decode cX6_init 25 = .ok (.aload_n 0, 1) := by decide +kernel
theorem dX6_init_26 : decode cX6_init 26 = .ok (.bipush 64, 2) := by decide +kernel
theorem dX6_init_28 : decode cX6_init 28 = .ok (.newarray .int, 2) := by decide +kernel
theorem dX6_init_30 : decode cX6_init 30 = .ok (.putfield 22, 3) := by decide +kernel
theorem dX6_init_33 : decode cX6_init 33 = .ok (.aload_n 0, 1) := by decide +kernel
theorem dX6_init_34 : decode cX6_init 34 = .ok (.bipush 56, 2) := by decide +kernel
theorem dX6_init_36 : decode cX6_init 36 = .ok (.newarray .int, 2) := by decide +kernel
theorem dX6_init_38 : decode cX6_init 38 = .ok (.putfield 25, 3) := by decide +kernel
theorem dX6_init_41 : decode cX6_init 41 = .ok (.return_, 1) := by decide +kernel
theorem dX6_take_0 : decode cX6_take 0 = .ok (.aload_n 0, 1) := by decide +kernel
theorem dX6_take_1 : decode cX6_take 1 = .ok (.aload_n 1, 1) := by decide +kernel
theorem dX6_take_2 : decode cX6_take 2 = .ok (.getfield 28, 3) := by decide +kernel
theorem dX6_take_5 : decode cX6_take 5 = .ok (.putfield 28, 3) := by decide +kernel
theorem dX6_take_8 : decode cX6_take 8 = .ok (.aload_n 0, 1) := by decide +kernel
theorem dX6_take_9 : decode cX6_take 9 = .ok (.aload_n 1, 1) := by decide +kernel
theorem dX6_take_10 : decode cX6_take 10 = .ok (.getfield 9, 3) := by decide +kernel
theorem dX6_take_13 : decode cX6_take 13 = .ok (.putfield 9, 3) := by decide +kernel
theorem dX6_take_16 : decode cX6_take 16 = .ok (.aload_n 0, 1) := by decide +kernel
theorem dX6_take_17 : decode cX6_take 17 = .ok (.aload_n 1, 1) := by decide +kernel
theorem dX6_take_18 : decode cX6_take 18 = .ok (.getfield 15, 3) := by decide +kernel
theorem dX6_take_21 : decode cX6_take 21 = .ok (.putfield 15, 3) := by decide +kernel
theorem dX6_take_24 : decode cX6_take 24 = .ok (.aload_n 1, 1) := by decide +kernel
theorem dX6_take_25 : decode cX6_take 25 = .ok (.getfield 18, 3) := by decide +kernel
theorem dX6_take_28 : decode cX6_take 28 = .ok (.iconst 0, 1) := by decide +kernel
theorem dX6_take_29 : decode cX6_take 29 = .ok (.aload_n 0, 1) := by decide +kernel
theorem dX6_take_30 : decode cX6_take 30 = .ok (.getfield 18, 3) := by decide +kernel
theorem dX6_take_33 : decode cX6_take 33 = .ok (.iconst 0, 1) := by decide +kernel
theorem dX6_take_34 : decode cX6_take 34 = .ok (.aload_n 0, 1) := by decide +kernel
theorem dX6_take_35 : decode cX6_take 35 = .ok (.getfield 18, 3) := by decide +kernel
theorem dX6_take_38 : decode cX6_take 38 = .ok (.arraylength, 1) := by decide +kernel
theorem dX6_take_39 : decode cX6_take 39 = .ok (.invokestatic 31, 3) := by decide +kernel
theorem dX6_take_42 : decode cX6_take 42 = .ok (.aload_n 1, 1) := by decide +kernel
theorem dX6_take_43 : decode cX6_take 43 = .ok (.getfield 22, 3) := by decide +kernel
theorem dX6_take_46 : decode cX6_take 46 = .ok (.iconst 0, 1) := by decide +kernel
theorem dX6_take_47 : decode cX6_take 47 = .ok (.aload_n 0, 1) := by decide +kernel
theorem dX6_take_48 : decode cX6_take 48 = .ok (.getfield 22, 3) := by decide +kernel
theorem dX6_take_51 : decode cX6_take 51 = .ok (.iconst 0, 1) := by decide +kernel
theorem dX6_take_52 : decode cX6_take 52 = .ok (.aload_n 0, 1) := by decide +kernel
theorem dX6_take_53 : decode cX6_take 53 = .ok (.getfield 22, 3) := by decide +kernel
theorem dX6_take_56 : decode cX6_take 56 = .ok (.arraylength, 1) := by decide +kernel
theorem dX6_take_57 : decode cX6_take 57 = .ok (.invokestatic 31, 3) := by decide +kernel
theorem dX6_take_60 : decode cX6_take 60 = .ok (.aload_n 1, 1) := by decide +kernel
theorem dX6_take_61 : decode cX6_take 61 = .ok (.getfield 25, 3) := by decide +kernel
theorem dX6_take_64 : decode cX6_take 64 = .ok (.iconst 0, 1) := by decide +kernel
theorem dX6_take_65 : decode cX6_take 65 = .ok (.aload_n 0, 1) := by decide +kernel
theorem dX6_take_66 : decode cX6_take 66 = .ok (.getfield 25, 3) := by decide +kernel
theorem dX6_take_69 : decode cX6_take 69 = .ok (.iconst 0, 1) := by decide +kernel
theorem dX6_take_70 : decode cX6_take 70 = .ok (.aload_n 0, 1) := by decide +kernel
theorem dX6_take_71 : decode cX6_take 71 = .ok (.getfield 25, 3) := by decide +kernel
theorem dX6_take_74 : decode cX6_take 74 = .ok (.arraylength, 1) := by decide +kernel
theorem dX6_take_75 : decode cX6_take 75 = .ok (.invokestatic 31, 3) := by decide +kernel
theorem dX6_take_78 : decode cX6_take 78 = .ok (.return_, 1) := by decide +kernel
theorem dX6_add_0 : decode cX6_add 0 = .ok (.aload_n 0, 1) := by decide +kernel
theorem dX6_add_1 : decode cX6_add 1 = .ok (.getfield 28, 3) := by decide +kernel
theorem dX6_add_4 : decode cX6_add 4 = .ok (.istore_n 2, 1) := by decide +kernel
theorem dX6_add_5 : decode cX6_add 5 = .ok (.aload_n 0, 1) := by decide +kernel
theorem dX6_add_6 : decode cX6_add 6 = .ok (.dup, 1) := by decide +kernel
theorem dX6_add_7 : decode cX6_add 7 = .ok (.getfield 28, 3) := by decide +kernel
theorem dX6_add_10 : decode cX6_add 10 = .ok (.iconst 1, 1) := by decide +kernel
theorem dX6_add_11 : decode cX6_add 11 = .ok (.iadd, 1) := by decide +kernel
theorem dX6_add_12 : decode cX6_add 12 = .ok (.putfield 28, 3) := by decide +kernel
theorem dX6_add_15 : decode cX6_add 15 = .ok (.getstatic 37, 3) := by decide +kernel
theorem dX6_add_18 : decode cX6_add 18 = .ok (.iconst 0, 1) := by decide +kernel
theorem dX6_add_19 : decode cX6_add 19 = .ok (.aload_n 0, 1) := by decide +kernel
theorem dX6_add_20 : decode cX6_add 20 = .ok (.getfield 18, 3) := by decide +kernel
theorem dX6_add_23 : decode cX6_add 23 = .ok (.iload_n 2, 1) := by decide +kernel
theorem dX6_add_24 : decode cX6_add 24 = .ok (.bipush 6, 2) := by decide +kernel
theorem dX6_add_26 : decode cX6_add 26 = .ok (.imul, 1) := by decide +kernel
theorem dX6_add_27 : decode cX6_add 27 = .ok (.bipush 6, 2) := by decide +kernel
theorem dX6_add_29 : decode cX6_add 29 = .ok (.invokestatic 31, 3) := by decide +kernel
theorem dX6_add_32 : decode cX6_add 32 = .ok (.aload_n 0, 1) := by decide +kernel
theorem dX6_add_33 : decode cX6_add 33 = .ok (.getfield 18, 3) := by decide +kernel
theorem dX6_add_36 : decode cX6_add 36 = .ok (.iload_n 2, 1) := by decide +kernel
theorem dX6_add_37 : decode cX6_add 37 = .ok (.bipush 6, 2) := by decide +kernel
theorem dX6_add_39 : decode cX6_add 39 = .ok (.imul, 1) := by decide +kernel
theorem dX6_add_40 : decode cX6_add 40 = .ok (.iconst 0, 1) := by decide +kernel
theorem dX6_add_41 : decode cX6_add 41 = .ok (.iadd, 1) := by decide +kernel
theorem dX6_add_42 : decode cX6_add 42 = .ok (.iload_n 1, 1) := by decide +kernel
theorem dX6_add_43 : decode cX6_add 43 = .ok (.iastore, 1) := by decide +kernel
theorem dX6_add_44 : decode cX6_add 44 = .ok (.iload_n 2, 1) := by decide +kernel
theorem dX6_add_45 : decode cX6_add 45 = .ok (.ireturn, 1) := by decide +kernel
theorem dX6_has_0 : decode cX6_has 0 = .ok (.iload_n 1, 1) := by decide +kernel
theorem dX6_has_1 : decode cX6_has 1 = .ok (.ifCond .lt 15, 3) := by decide +kernel
theorem dX6_has_4 : decode cX6_has 4 = .ok (.iload_n 1, 1) := by decide +kernel
theorem dX6_has_5 : decode cX6_has 5 = .ok (.aload_n 0, 1) := by decide +kernel
theorem dX6_has_6 : decode cX6_has 6 = .ok (.getfield 28, 3) := by decide +kernel
theorem dX6_has_9 : decode cX6_has 9 = .ok (.if_icmp .ge 7, 3) := by decide +kernel
theorem dX6_has_12 : decode cX6_has 12 = .ok (.iconst 1, 1) := by decide +kernel
theorem dX6_has_13 : decode cX6_has 13 = .ok (.goto 4, 3) := by decide +kernel
theorem dX6_has_16 : decode cX6_has 16 = .ok (.iconst 0, 1) := by decide +kernel
theorem dX6_has_17 : decode cX6_has 17 = .ok (.ireturn, 1) := by decide +kernel
theorem dX6_hasTwo_0 : decode cX6_hasTwo 0 = .ok (.aload_n 0, 1) := by decide +kernel
theorem dX6_hasTwo_1 : decode cX6_hasTwo 1 = .ok (.iload_n 1, 1) := by decide +kernel
theorem dX6_hasTwo_2 : decode cX6_hasTwo 2 = .ok (.invokevirtual 40, 3) := by decide +kernel
theorem dX6_hasTwo_5 : decode cX6_hasTwo 5 = .ok (.ifCond .eq 20, 3) := by decide +kernel
theorem dX6_hasTwo_8 : decode cX6_hasTwo 8 = .ok (.aload_n 0, 1) := by decide +kernel
theorem dX6_hasTwo_9 : decode cX6_hasTwo 9 = .ok (.iload_n 2, 1) := by decide +kernel
theorem dX6_hasTwo_10 : decode cX6_hasTwo 10 = .ok (.invokevirtual 40, 3) := by decide +kernel
theorem dX6_hasTwo_13 : decode cX6_hasTwo 13 = .ok (.ifCond .eq 12, 3) := by decide +kernel
theorem dX6_hasTwo_16 : decode cX6_hasTwo 16 = .ok (.iload_n 1, 1) := by decide +kernel
theorem dX6_hasTwo_17 : decode cX6_hasTwo 17 = .ok (.iload_n 2, 1) := by decide +kernel
theorem dX6_hasTwo_18 : decode cX6_hasTwo 18 = .ok (.if_icmp .eq 7, 3) := by decide +kernel
theorem dX6_hasTwo_21 : decode cX6_hasTwo 21 = .ok (.iconst 1, 1) := by decide +kernel
theorem dX6_hasTwo_22 : decode cX6_hasTwo 22 = .ok (.goto 4, 3) := by decide +kernel
theorem dX6_hasTwo_25 : decode cX6_hasTwo 25 = .ok (.iconst 0, 1) := by decide +kernel
theorem dX6_hasTwo_26 : decode cX6_hasTwo 26 = .ok (.ireturn, 1) := by decide +kernel
theorem dX6_value_0 : decode cX6_value 0 = .ok (.aload_n 0, 1) := by decide +kernel
theorem dX6_value_1 : decode cX6_value 1 = .ok (.getfield 18, 3) := by decide +kernel
theorem dX6_value_4 : decode cX6_value 4 = .ok (.iload_n 1, 1) := by decide +kernel
theorem dX6_value_5 : decode cX6_value 5 = .ok (.bipush 6, 2) := by decide +kernel
theorem dX6_value_7 : decode cX6_value 7 = .ok (.imul, 1) := by decide +kernel
theorem dX6_value_8 : decode cX6_value 8 = .ok (.iload_n 2, 1) := by decide +kernel
theorem dX6_value_9 : decode cX6_value 9 = .ok (.iadd, 1) := by decide +kernel
theorem dX6_value_10 : decode cX6_value 10 = .ok (.iaload, 1) := by decide +kernel
theorem dX6_value_11 : decode cX6_value 11 = .ok (.ireturn, 1) := by decide +kernel
theorem dX6_change_0 : decode cX6_change 0 = .ok (.aload_n 0, 1) := by decide +kernel
theorem dX6_change_1 : decode cX6_change 1 = .ok (.iload_n 1, 1) := by decide +kernel
theorem dX6_change_2 : decode cX6_change 2 = .ok (.iload_n 2, 1) := by decide +kernel
theorem dX6_change_3 : decode cX6_change 3 = .ok (.invokevirtual 44, 3) := by decide +kernel
theorem dX6_change_6 : decode cX6_change 6 = .ok (.istore 4, 2) := by decide +kernel
theorem dX6_change_8 : decode cX6_change 8 = .ok (.aload_n 0, 1) := by decide +kernel
theorem dX6_change_9 : decode cX6_change 9 = .ok (.getfield 18, 3) := by decide +kernel
theorem dX6_change_12 : decode cX6_change 12 = .ok (.iload_n 1, 1) := by decide +kernel
theorem dX6_change_13 : decode cX6_change 13 = .ok (.bipush 6, 2) := by decide +kernel
theorem dX6_change_15 : decode cX6_change 15 = .ok (.imul, 1) := by decide +kernel
theorem dX6_change_16 : decode cX6_change 16 = .ok (.iload_n 2, 1) := by decide +kernel
theorem dX6_change_17 : decode cX6_change 17 = .ok (.iadd, 1) := by decide +kernel
theorem dX6_change_18 : decode cX6_change 18 = .ok (.iload_n 3, 1) := by decide +kernel
theorem dX6_change_19 : decode cX6_change 19 = .ok (.iastore, 1) := by decide +kernel
theorem dX6_change_20 : decode cX6_change 20 = .ok (.iload 4, 2) := by decide +kernel
theorem dX6_change_22 : decode cX6_change 22 = .ok (.ireturn, 1) := by decide +kernel
theorem dX6_sings_0 : decode cX6_sings 0 = .ok (.aload_n 0, 1) := by decide +kernel
theorem dX6_sings_1 : decode cX6_sings 1 = .ok (.iload_n 1, 1) := by decide +kernel
theorem dX6_sings_2 : decode cX6_sings 2 = .ok (.iconst 0, 1) := by decide +kernel
theorem dX6_sings_3 : decode cX6_sings 3 = .ok (.invokevirtual 44, 3) := by decide +kernel
theorem dX6_sings_6 : decode cX6_sings 6 = .ok (.iconst 4, 1) := by decide +kernel
theorem dX6_sings_7 : decode cX6_sings 7 = .ok (.if_icmp .ge 7, 3) := by decide +kernel
theorem dX6_sings_10 : decode cX6_sings 10 = .ok (.iconst 1, 1) := by decide +kernel
theorem dX6_sings_11 : decode cX6_sings 11 = .ok (.goto 4, 3) := by decide +kernel
theorem dX6_sings_14 : decode cX6_sings 14 = .ok (.iconst 0, 1) := by decide +kernel
theorem dX6_sings_15 : decode cX6_sings 15 = .ok (.ireturn, 1) := by decide +kernel
theorem dX6_isCut_0 : decode cX6_isCut 0 = .ok (.aload_n 0, 1) := by decide +kernel
theorem dX6_isCut_1 : decode cX6_isCut 1 = .ok (.iload_n 1, 1) := by decide +kernel
theorem dX6_isCut_2 : decode cX6_isCut 2 = .ok (.iconst 0, 1) := by decide +kernel
theorem dX6_isCut_3 : decode cX6_isCut 3 = .ok (.invokevirtual 44, 3) := by decide +kernel
theorem dX6_isCut_6 : decode cX6_isCut 6 = .ok (.iconst 5, 1) := by decide +kernel
theorem dX6_isCut_7 : decode cX6_isCut 7 = .ok (.if_icmp .ne 7, 3) := by decide +kernel
theorem dX6_isCut_10 : decode cX6_isCut 10 = .ok (.iconst 1, 1) := by decide +kernel
theorem dX6_isCut_11 : decode cX6_isCut 11 = .ok (.goto 4, 3) := by decide +kernel
theorem dX6_isCut_14 : decode cX6_isCut 14 = .ok (.iconst 0, 1) := by decide +kernel
theorem dX6_isCut_15 : decode cX6_isCut 15 = .ok (.ireturn, 1) := by decide +kernel
theorem dX6_all_0 : decode cX6_all 0 = .ok (.iconst 1, 1) := by decide +kernel
theorem dX6_all_1 : decode cX6_all 1 = .ok (.aload_n 0, 1) := by decide +kernel
theorem dX6_all_2 : decode cX6_all 2 = .ok (.getfield 28, 3) := by decide +kernel
theorem dX6_all_5 : decode cX6_all 5 = .ok (.ishl, 1) := by decide +kernel
theorem dX6_all_6 : decode cX6_all 6 = .ok (.iconst 1, 1) := by decide +kernel
theorem dX6_all_7 : decode cX6_all 7 = .ok (.isub, 1) := by decide +kernel
theorem dX6_all_8 : decode cX6_all 8 = .ok (.ireturn, 1) := by decide +kernel
theorem dX6_singers_0 : decode cX6_singers 0 = .ok (.iconst 0, 1) := by decide +kernel
theorem dX6_singers_1 : decode cX6_singers 1 = .ok (.istore_n 1, 1) := by decide +kernel
theorem dX6_singers_2 : decode cX6_singers 2 = .ok (.iconst 0, 1) := by decide +kernel
theorem dX6_singers_3 : decode cX6_singers 3 = .ok (.istore_n 2, 1) := by decide +kernel
theorem dX6_singers_4 : decode cX6_singers 4 = .ok (.iload_n 2, 1) := by decide +kernel
theorem dX6_singers_5 : decode cX6_singers 5 = .ok (.aload_n 0, 1) := by decide +kernel
theorem dX6_singers_6 : decode cX6_singers 6 = .ok (.getfield 28, 3) := by decide +kernel
theorem dX6_singers_9 : decode cX6_singers 9 = .ok (.if_icmp .ge 27, 3) := by decide +kernel
theorem dX6_singers_12 : decode cX6_singers 12 = .ok (.iload_n 1, 1) := by decide +kernel
theorem dX6_singers_13 : decode cX6_singers 13 = .ok (.aload_n 0, 1) := by decide +kernel
theorem dX6_singers_14 : decode cX6_singers 14 = .ok (.iload_n 2, 1) := by decide +kernel
theorem dX6_singers_15 : decode cX6_singers 15 = .ok (.invokevirtual 48, 3) := by decide +kernel
theorem dX6_singers_18 : decode cX6_singers 18 = .ok (.ifCond .eq 9, 3) := by decide +kernel
theorem dX6_singers_21 : decode cX6_singers 21 = .ok (.iconst 1, 1) := by decide +kernel
theorem dX6_singers_22 : decode cX6_singers 22 = .ok (.iload_n 2, 1) := by decide +kernel
theorem dX6_singers_23 : decode cX6_singers 23 = .ok (.ishl, 1) := by decide +kernel
theorem dX6_singers_24 : decode cX6_singers 24 = .ok (.goto 4, 3) := by decide +kernel
theorem dX6_singers_27 : decode cX6_singers 27 = .ok (.iconst 0, 1) := by decide +kernel
theorem dX6_singers_28 : decode cX6_singers 28 = .ok (.ior, 1) := by decide +kernel
theorem dX6_singers_29 : decode cX6_singers 29 = .ok (.istore_n 1, 1) := by decide +kernel
theorem dX6_singers_30 : decode cX6_singers 30 = .ok (.iinc 2 1, 3) := by decide +kernel
theorem dX6_singers_33 : decode cX6_singers 33 = .ok (.goto (-29), 3) := by decide +kernel
theorem dX6_singers_36 : decode cX6_singers 36 = .ok (.iload_n 1, 1) := by decide +kernel
theorem dX6_singers_37 : decode cX6_singers 37 = .ok (.ireturn, 1) := by decide +kernel
theorem dX6_uncut_0 : decode cX6_uncut 0 = .ok (.iconst 0, 1) := by decide +kernel
theorem dX6_uncut_1 : decode cX6_uncut 1 = .ok (.istore_n 1, 1) := by decide +kernel
theorem dX6_uncut_2 : decode cX6_uncut 2 = .ok (.iconst 0, 1) := by decide +kernel
theorem dX6_uncut_3 : decode cX6_uncut 3 = .ok (.istore_n 2, 1) := by decide +kernel
theorem dX6_uncut_4 : decode cX6_uncut 4 = .ok (.iload_n 2, 1) := by decide +kernel
theorem dX6_uncut_5 : decode cX6_uncut 5 = .ok (.aload_n 0, 1) := by decide +kernel
theorem dX6_uncut_6 : decode cX6_uncut 6 = .ok (.getfield 28, 3) := by decide +kernel
theorem dX6_uncut_9 : decode cX6_uncut 9 = .ok (.if_icmp .ge 27, 3) := by decide +kernel
theorem dX6_uncut_12 : decode cX6_uncut 12 = .ok (.iload_n 1, 1) := by decide +kernel
theorem dX6_uncut_13 : decode cX6_uncut 13 = .ok (.aload_n 0, 1) := by decide +kernel
theorem dX6_uncut_14 : decode cX6_uncut 14 = .ok (.iload_n 2, 1) := by decide +kernel
theorem dX6_uncut_15 : decode cX6_uncut 15 = .ok (.invokevirtual 51, 3) := by decide +kernel
theorem dX6_uncut_18 : decode cX6_uncut 18 = .ok (.ifCond .eq 7, 3) := by decide +kernel
theorem dX6_uncut_21 : decode cX6_uncut 21 = .ok (.iconst 0, 1) := by decide +kernel
theorem dX6_uncut_22 : decode cX6_uncut 22 = .ok (.goto 6, 3) := by decide +kernel
theorem dX6_uncut_25 : decode cX6_uncut 25 = .ok (.iconst 1, 1) := by decide +kernel
theorem dX6_uncut_26 : decode cX6_uncut 26 = .ok (.iload_n 2, 1) := by decide +kernel
theorem dX6_uncut_27 : decode cX6_uncut 27 = .ok (.ishl, 1) := by decide +kernel
theorem dX6_uncut_28 : decode cX6_uncut 28 = .ok (.ior, 1) := by decide +kernel
theorem dX6_uncut_29 : decode cX6_uncut 29 = .ok (.istore_n 1, 1) := by decide +kernel
theorem dX6_uncut_30 : decode cX6_uncut 30 = .ok (.iinc 2 1, 3) := by decide +kernel
theorem dX6_uncut_33 : decode cX6_uncut 33 = .ok (.goto (-29), 3) := by decide +kernel
theorem dX6_uncut_36 : decode cX6_uncut 36 = .ok (.iload_n 1, 1) := by decide +kernel
theorem dX6_uncut_37 : decode cX6_uncut 37 = .ok (.ireturn, 1) := by decide +kernel
theorem dX6_between_0 : decode cX6_between 0 = .ok (.aload_n 0, 1) := by decide +kernel
theorem dX6_between_1 : decode cX6_between 1 = .ok (.getfield 22, 3) := by decide +kernel
theorem dX6_between_4 : decode cX6_between 4 = .ok (.iload_n 1, 1) := by decide +kernel
theorem dX6_between_5 : decode cX6_between 5 = .ok (.bipush 8, 2) := by decide +kernel
theorem dX6_between_7 : decode cX6_between 7 = .ok (.imul, 1) := by decide +kernel
theorem dX6_between_8 : decode cX6_between 8 = .ok (.iload_n 2, 1) := by decide +kernel
theorem dX6_between_9 : decode cX6_between 9 = .ok (.iadd, 1) := by decide +kernel
theorem dX6_between_10 : decode cX6_between 10 = .ok (.iaload, 1) := by decide +kernel
theorem dX6_between_11 : decode cX6_between 11 = .ok (.ireturn, 1) := by decide +kernel
theorem dX6_lay_0 : decode cX6_lay 0 = .ok (.aload_n 0, 1) := by decide +kernel
theorem dX6_lay_1 : decode cX6_lay 1 = .ok (.iload_n 1, 1) := by decide +kernel
theorem dX6_lay_2 : decode cX6_lay 2 = .ok (.iload_n 2, 1) := by decide +kernel
theorem dX6_lay_3 : decode cX6_lay 3 = .ok (.invokevirtual 54, 3) := by decide +kernel
theorem dX6_lay_6 : decode cX6_lay 6 = .ok (.istore 4, 2) := by decide +kernel
theorem dX6_lay_8 : decode cX6_lay 8 = .ok (.aload_n 0, 1) := by decide +kernel
theorem dX6_lay_9 : decode cX6_lay 9 = .ok (.getfield 22, 3) := by decide +kernel
theorem dX6_lay_12 : decode cX6_lay 12 = .ok (.iload_n 1, 1) := by decide +kernel
theorem dX6_lay_13 : decode cX6_lay 13 = .ok (.bipush 8, 2) := by decide +kernel
theorem dX6_lay_15 : decode cX6_lay 15 = .ok (.imul, 1) := by decide +kernel
theorem dX6_lay_16 : decode cX6_lay 16 = .ok (.iload_n 2, 1) := by decide +kernel
theorem dX6_lay_17 : decode cX6_lay 17 = .ok (.iadd, 1) := by decide +kernel
theorem dX6_lay_18 : decode cX6_lay 18 = .ok (.iload_n 3, 1) := by decide +kernel
theorem dX6_lay_19 : decode cX6_lay 19 = .ok (.iastore, 1) := by decide +kernel
theorem dX6_lay_20 : decode cX6_lay 20 = .ok (.iload 4, 2) := by decide +kernel
theorem dX6_lay_22 : decode cX6_lay 22 = .ok (.ireturn, 1) := by decide +kernel
theorem dX6_canLayAll_0 : decode cX6_canLayAll 0 = .ok (.iconst 0, 1) := by decide +kernel
theorem dX6_canLayAll_1 : decode cX6_canLayAll 1 = .ok (.istore 4, 2) := by decide +kernel
theorem dX6_canLayAll_3 : decode cX6_canLayAll 3 = .ok (.iload 4, 2) := by decide +kernel
theorem dX6_canLayAll_5 : decode cX6_canLayAll 5 = .ok (.aload_n 0, 1) := by decide +kernel
theorem dX6_canLayAll_6 : decode cX6_canLayAll 6 = .ok (.getfield 28, 3) := by decide +kernel
theorem dX6_canLayAll_9 : decode cX6_canLayAll 9 = .ok (.if_icmp .ge 46, 3) := by decide +kernel
theorem dX6_canLayAll_12 : decode cX6_canLayAll 12 = .ok (.aload_n 2, 1) := by decide +kernel
theorem dX6_canLayAll_13 : decode cX6_canLayAll 13 = .ok (.getfield 57, 3) := by decide +kernel
theorem dX6_canLayAll_16 : decode cX6_canLayAll 16 = .ok (.iload_n 3, 1) := by decide +kernel
theorem dX6_canLayAll_17 : decode cX6_canLayAll 17 = .ok (.iload 4, 2) := by decide +kernel
theorem dX6_canLayAll_19 : decode cX6_canLayAll 19 = .ok (.iadd, 1) := by decide +kernel
theorem dX6_canLayAll_20 : decode cX6_canLayAll 20 = .ok (.iaload, 1) := by decide +kernel
theorem dX6_canLayAll_21 : decode cX6_canLayAll 21 = .ok (.istore 5, 2) := by decide +kernel
theorem dX6_canLayAll_23 : decode cX6_canLayAll 23 = .ok (.iload 5, 2) := by decide +kernel
theorem dX6_canLayAll_25 : decode cX6_canLayAll 25 = .ok (.ifCond .lt 22, 3) := by decide +kernel
theorem dX6_canLayAll_28 : decode cX6_canLayAll 28 = .ok (.iload 5, 2) := by decide +kernel
theorem dX6_canLayAll_30 : decode cX6_canLayAll 30 = .ok (.sipush 400, 3) := by decide +kernel
theorem dX6_canLayAll_33 : decode cX6_canLayAll 33 = .ok (.if_icmp .gt 14, 3) := by decide +kernel
theorem dX6_canLayAll_36 : decode cX6_canLayAll 36 = .ok (.iload 4, 2) := by decide +kernel
theorem dX6_canLayAll_38 : decode cX6_canLayAll 38 = .ok (.iload_n 1, 1) := by decide +kernel
theorem dX6_canLayAll_39 : decode cX6_canLayAll 39 = .ok (.if_icmp .ne 10, 3) := by decide +kernel
theorem dX6_canLayAll_42 : decode cX6_canLayAll 42 = .ok (.iload 5, 2) := by decide +kernel
theorem dX6_canLayAll_44 : decode cX6_canLayAll 44 = .ok (.ifCond .eq 5, 3) := by decide +kernel
theorem dX6_canLayAll_47 : decode cX6_canLayAll 47 = .ok (.iconst 0, 1) := by decide +kernel
theorem dX6_canLayAll_48 : decode cX6_canLayAll 48 = .ok (.ireturn, 1) := by decide +kernel
theorem dX6_canLayAll_49 : decode cX6_canLayAll 49 = .ok (.iinc 4 1, 3) := by decide +kernel
theorem dX6_canLayAll_52 : decode cX6_canLayAll 52 = .ok (.goto (-49), 3) := by decide +kernel
theorem dX6_canLayAll_55 : decode cX6_canLayAll 55 = .ok (.iconst 1, 1) := by decide +kernel
theorem dX6_canLayAll_56 : decode cX6_canLayAll 56 = .ok (.ireturn, 1) := by decide +kernel
theorem dX6_layAll_0 : decode cX6_layAll 0 = .ok (.iconst 0, 1) := by decide +kernel
theorem dX6_layAll_1 : decode cX6_layAll 1 = .ok (.istore 4, 2) := by decide +kernel
theorem dX6_layAll_3 : decode cX6_layAll 3 = .ok (.iconst 0, 1) := by decide +kernel
theorem dX6_layAll_4 : decode cX6_layAll 4 = .ok (.istore 5, 2) := by decide +kernel
theorem dX6_layAll_6 : decode cX6_layAll 6 = .ok (.iload 5, 2) := by decide +kernel
theorem dX6_layAll_8 : decode cX6_layAll 8 = .ok (.aload_n 0, 1) := by decide +kernel
theorem dX6_layAll_9 : decode cX6_layAll 9 = .ok (.getfield 28, 3) := by decide +kernel
theorem dX6_layAll_12 : decode cX6_layAll 12 = .ok (.if_icmp .ge 46, 3) := by decide +kernel
theorem dX6_layAll_15 : decode cX6_layAll 15 = .ok (.aload_n 0, 1) := by decide +kernel
theorem dX6_layAll_16 : decode cX6_layAll 16 = .ok (.iload_n 1, 1) := by decide +kernel
theorem dX6_layAll_17 : decode cX6_layAll 17 = .ok (.iload 5, 2) := by decide +kernel
theorem dX6_layAll_19 : decode cX6_layAll 19 = .ok (.aload_n 2, 1) := by decide +kernel
theorem dX6_layAll_20 : decode cX6_layAll 20 = .ok (.getfield 57, 3) := by decide +kernel
theorem dX6_layAll_23 : decode cX6_layAll 23 = .ok (.iload_n 3, 1) := by decide +kernel
theorem dX6_layAll_24 : decode cX6_layAll 24 = .ok (.iload 5, 2) := by decide +kernel
theorem dX6_layAll_26 : decode cX6_layAll 26 = .ok (.iadd, 1) := by decide +kernel
theorem dX6_layAll_27 : decode cX6_layAll 27 = .ok (.iaload, 1) := by decide +kernel
theorem dX6_layAll_28 : decode cX6_layAll 28 = .ok (.invokevirtual 62, 3) := by decide +kernel
theorem dX6_layAll_31 : decode cX6_layAll 31 = .ok (.pop, 1) := by decide +kernel
theorem dX6_layAll_32 : decode cX6_layAll 32 = .ok (.iload 4, 2) := by decide +kernel
theorem dX6_layAll_34 : decode cX6_layAll 34 = .ok (.aload_n 0, 1) := by decide +kernel
theorem dX6_layAll_35 : decode cX6_layAll 35 = .ok (.iload_n 1, 1) := by decide +kernel
theorem dX6_layAll_36 : decode cX6_layAll 36 = .ok (.iload 5, 2) := by decide +kernel
theorem dX6_layAll_38 : decode cX6_layAll 38 = .ok (.invokevirtual 54, 3) := by decide +kernel
theorem dX6_layAll_41 : decode cX6_layAll 41 = .ok (.ifCond .le 7, 3) := by decide +kernel
theorem dX6_layAll_44 : decode cX6_layAll 44 = .ok (.iconst 1, 1) := by decide +kernel
theorem dX6_layAll_45 : decode cX6_layAll 45 = .ok (.goto 4, 3) := by decide +kernel
theorem dX6_layAll_48 : decode cX6_layAll 48 = .ok (.iconst 0, 1) := by decide +kernel
theorem dX6_layAll_49 : decode cX6_layAll 49 = .ok (.iadd, 1) := by decide +kernel
theorem dX6_layAll_50 : decode cX6_layAll 50 = .ok (.istore 4, 2) := by decide +kernel
theorem dX6_layAll_52 : decode cX6_layAll 52 = .ok (.iinc 5 1, 3) := by decide +kernel
theorem dX6_layAll_55 : decode cX6_layAll 55 = .ok (.goto (-49), 3) := by decide +kernel
theorem dX6_layAll_58 : decode cX6_layAll 58 = .ok (.iload 4, 2) := by decide +kernel
theorem dX6_layAll_60 : decode cX6_layAll 60 = .ok (.ireturn, 1) := by decide +kernel
theorem dX6_wiresInAll_0 : decode cX6_wiresInAll 0 = .ok (.iconst 0, 1) := by decide +kernel
theorem dX6_wiresInAll_1 : decode cX6_wiresInAll 1 = .ok (.istore_n 1, 1) := by decide +kernel
theorem dX6_wiresInAll_2 : decode cX6_wiresInAll 2 = .ok (.aload_n 0, 1) := by decide +kernel
theorem dX6_wiresInAll_3 : decode cX6_wiresInAll 3 = .ok (.getfield 22, 3) := by decide +kernel
theorem dX6_wiresInAll_6 : decode cX6_wiresInAll 6 = .ok (.astore_n 2, 1) := by decide +kernel
theorem dX6_wiresInAll_7 : decode cX6_wiresInAll 7 = .ok (.aload_n 2, 1) := by decide +kernel
theorem dX6_wiresInAll_8 : decode cX6_wiresInAll 8 = .ok (.arraylength, 1) := by decide +kernel
theorem dX6_wiresInAll_9 : decode cX6_wiresInAll 9 = .ok (.istore_n 3, 1) := by decide +kernel
theorem dX6_wiresInAll_10 : decode cX6_wiresInAll 10 = .ok (.iconst 0, 1) := by decide +kernel
theorem dX6_wiresInAll_11 : decode cX6_wiresInAll 11 = .ok (.istore 4, 2) := by decide +kernel
theorem dX6_wiresInAll_13 : decode cX6_wiresInAll 13 = .ok (.iload 4, 2) := by decide +kernel
theorem dX6_wiresInAll_15 : decode cX6_wiresInAll 15 = .ok (.iload_n 3, 1) := by decide +kernel
theorem dX6_wiresInAll_16 : decode cX6_wiresInAll 16 = .ok (.if_icmp .ge 28, 3) := by decide +kernel
theorem dX6_wiresInAll_19 : decode cX6_wiresInAll 19 = .ok (.aload_n 2, 1) := by decide +kernel
theorem dX6_wiresInAll_20 : decode cX6_wiresInAll 20 = .ok (.iload 4, 2) := by decide +kernel
theorem dX6_wiresInAll_22 : decode cX6_wiresInAll 22 = .ok (.iaload, 1) := by decide +kernel
theorem dX6_wiresInAll_23 : decode cX6_wiresInAll 23 = .ok (.istore 5, 2) := by decide +kernel
theorem dX6_wiresInAll_25 : decode cX6_wiresInAll 25 = .ok (.iload_n 1, 1) := by decide +kernel
theorem dX6_wiresInAll_26 : decode cX6_wiresInAll 26 = .ok (.iload 5, 2) := by decide +kernel
theorem dX6_wiresInAll_28 : decode cX6_wiresInAll 28 = .ok (.ifCond .le 7, 3) := by decide +kernel
theorem dX6_wiresInAll_31 : decode cX6_wiresInAll 31 = .ok (.iconst 1, 1) := by decide +kernel
theorem dX6_wiresInAll_32 : decode cX6_wiresInAll 32 = .ok (.goto 4, 3) := by decide +kernel
theorem dX6_wiresInAll_35 : decode cX6_wiresInAll 35 = .ok (.iconst 0, 1) := by decide +kernel
theorem dX6_wiresInAll_36 : decode cX6_wiresInAll 36 = .ok (.iadd, 1) := by decide +kernel
theorem dX6_wiresInAll_37 : decode cX6_wiresInAll 37 = .ok (.istore_n 1, 1) := by decide +kernel
theorem dX6_wiresInAll_38 : decode cX6_wiresInAll 38 = .ok (.iinc 4 1, 3) := by decide +kernel
theorem dX6_wiresInAll_41 : decode cX6_wiresInAll 41 = .ok (.goto (-28), 3) := by decide +kernel
theorem dX6_wiresInAll_44 : decode cX6_wiresInAll 44 = .ok (.iload_n 1, 1) := by decide +kernel
theorem dX6_wiresInAll_45 : decode cX6_wiresInAll 45 = .ok (.ireturn, 1) := by decide +kernel
theorem dX6_reachedByAll_0 : decode cX6_reachedByAll 0 = .ok (.iconst 0, 1) := by decide +kernel
theorem dX6_reachedByAll_1 : decode cX6_reachedByAll 1 = .ok (.istore_n 3, 1) := by decide +kernel
theorem dX6_reachedByAll_2 : decode cX6_reachedByAll 2 = .ok (.iload_n 3, 1) := by decide +kernel
theorem dX6_reachedByAll_3 : decode cX6_reachedByAll 3 = .ok (.aload_n 0, 1) := by decide +kernel
theorem dX6_reachedByAll_4 : decode cX6_reachedByAll 4 = .ok (.getfield 28, 3) := by decide +kernel
theorem dX6_reachedByAll_7 : decode cX6_reachedByAll 7 = .ok (.if_icmp .ge 28, 3) := by decide +kernel
theorem dX6_reachedByAll_10 : decode cX6_reachedByAll 10 = .ok (.iload_n 2, 1) := by decide +kernel
theorem dX6_reachedByAll_11 : decode cX6_reachedByAll 11 = .ok (.iload_n 3, 1) := by decide +kernel
theorem dX6_reachedByAll_12 : decode cX6_reachedByAll 12 = .ok (.ishr, 1) := by decide +kernel
theorem dX6_reachedByAll_13 : decode cX6_reachedByAll 13 = .ok (.iconst 1, 1) := by decide +kernel
theorem dX6_reachedByAll_14 : decode cX6_reachedByAll 14 = .ok (.iand, 1) := by decide +kernel
theorem dX6_reachedByAll_15 : decode cX6_reachedByAll 15 = .ok (.ifCond .eq 14, 3) := by decide +kernel
theorem dX6_reachedByAll_18 : decode cX6_reachedByAll 18 = .ok (.aload_n 0, 1) := by decide +kernel
theorem dX6_reachedByAll_19 : decode cX6_reachedByAll 19 = .ok (.iload_n 3, 1) := by decide +kernel
theorem dX6_reachedByAll_20 : decode cX6_reachedByAll 20 = .ok (.iload_n 1, 1) := by decide +kernel
theorem dX6_reachedByAll_21 : decode cX6_reachedByAll 21 = .ok (.invokevirtual 54, 3) := by decide +kernel
theorem dX6_reachedByAll_24 : decode cX6_reachedByAll 24 = .ok (.ifCond .ne 5, 3) := by decide +kernel
theorem dX6_reachedByAll_27 : decode cX6_reachedByAll 27 = .ok (.iconst 0, 1) := by decide +kernel
theorem dX6_reachedByAll_28 : decode cX6_reachedByAll 28 = .ok (.ireturn, 1) := by decide +kernel
theorem dX6_reachedByAll_29 : decode cX6_reachedByAll 29 = .ok (.iinc 3 1, 3) := by decide +kernel
theorem dX6_reachedByAll_32 : decode cX6_reachedByAll 32 = .ok (.goto (-30), 3) := by decide +kernel
theorem dX6_reachedByAll_35 : decode cX6_reachedByAll 35 = .ok (.iconst 1, 1) := by decide +kernel
theorem dX6_reachedByAll_36 : decode cX6_reachedByAll 36 = .ok (.ireturn, 1) := by decide +kernel
theorem dX6_longestWire_0 : decode cX6_longestWire 0 = .ok (.iconst 0, 1) := by decide +kernel
theorem dX6_longestWire_1 : decode cX6_longestWire 1 = .ok (.istore_n 3, 1) := by decide +kernel
theorem dX6_longestWire_2 : decode cX6_longestWire 2 = .ok (.iconst 0, 1) := by decide +kernel
theorem dX6_longestWire_3 : decode cX6_longestWire 3 = .ok (.istore 4, 2) := by decide +kernel
theorem dX6_longestWire_5 : decode cX6_longestWire 5 = .ok (.iload 4, 2) := by decide +kernel
theorem dX6_longestWire_7 : decode cX6_longestWire 7 = .ok (.aload_n 0, 1) := by decide +kernel
theorem dX6_longestWire_8 : decode cX6_longestWire 8 = .ok (.getfield 28, 3) := by decide +kernel
theorem dX6_longestWire_11 : decode cX6_longestWire 11 = .ok (.if_icmp .ge 30, 3) := by decide +kernel
theorem dX6_longestWire_14 : decode cX6_longestWire 14 = .ok (.iload_n 2, 1) := by decide +kernel
theorem dX6_longestWire_15 : decode cX6_longestWire 15 = .ok (.iload 4, 2) := by decide +kernel
theorem dX6_longestWire_17 : decode cX6_longestWire 17 = .ok (.ishr, 1) := by decide +kernel
theorem dX6_longestWire_18 : decode cX6_longestWire 18 = .ok (.iconst 1, 1) := by decide +kernel
theorem dX6_longestWire_19 : decode cX6_longestWire 19 = .ok (.iand, 1) := by decide +kernel
theorem dX6_longestWire_20 : decode cX6_longestWire 20 = .ok (.ifCond .eq 15, 3) := by decide +kernel
theorem dX6_longestWire_23 : decode cX6_longestWire 23 = .ok (.iload_n 3, 1) := by decide +kernel
theorem dX6_longestWire_24 : decode cX6_longestWire 24 = .ok (.aload_n 0, 1) := by decide +kernel
theorem dX6_longestWire_25 : decode cX6_longestWire 25 = .ok (.iload 4, 2) := by decide +kernel
theorem dX6_longestWire_27 : decode cX6_longestWire 27 = .ok (.iload_n 1, 1) := by decide +kernel
theorem dX6_longestWire_28 : decode cX6_longestWire 28 = .ok (.invokevirtual 54, 3) := by decide +kernel
theorem dX6_longestWire_31 : decode cX6_longestWire 31 = .ok (.invokestatic 66, 3) := by decide +kernel
theorem dX6_longestWire_34 : decode cX6_longestWire 34 = .ok (.istore_n 3, 1) := by decide +kernel
theorem dX6_longestWire_35 : decode cX6_longestWire 35 = .ok (.iinc 4 1, 3) := by decide +kernel
theorem dX6_longestWire_38 : decode cX6_longestWire 38 = .ok (.goto (-33), 3) := by decide +kernel
theorem dX6_longestWire_41 : decode cX6_longestWire 41 = .ok (.iload_n 3, 1) := by decide +kernel
theorem dX6_longestWire_42 : decode cX6_longestWire 42 = .ok (.ireturn, 1) := by decide +kernel
theorem dX6_shortestWire_0 : decode cX6_shortestWire 0 = .ok (.sipush 400, 3) := by decide +kernel
theorem dX6_shortestWire_3 : decode cX6_shortestWire 3 = .ok (.istore_n 3, 1) := by decide +kernel
theorem dX6_shortestWire_4 : decode cX6_shortestWire 4 = .ok (.iconst 0, 1) := by decide +kernel
theorem dX6_shortestWire_5 : decode cX6_shortestWire 5 = .ok (.istore 4, 2) := by decide +kernel
theorem dX6_shortestWire_7 : decode cX6_shortestWire 7 = .ok (.iload 4, 2) := by decide +kernel
theorem dX6_shortestWire_9 : decode cX6_shortestWire 9 = .ok (.aload_n 0, 1) := by decide +kernel
theorem dX6_shortestWire_10 : decode cX6_shortestWire 10 = .ok (.getfield 28, 3) := by decide +kernel
theorem dX6_shortestWire_13 : decode cX6_shortestWire 13 = .ok (.if_icmp .ge 30, 3) := by decide +kernel
theorem dX6_shortestWire_16 : decode cX6_shortestWire 16 = .ok (.iload_n 2, 1) := by decide +kernel
theorem dX6_shortestWire_17 : decode cX6_shortestWire 17 = .ok (.iload 4, 2) := by decide +kernel
theorem dX6_shortestWire_19 : decode cX6_shortestWire 19 = .ok (.ishr, 1) := by decide +kernel
theorem dX6_shortestWire_20 : decode cX6_shortestWire 20 = .ok (.iconst 1, 1) := by decide +kernel
theorem dX6_shortestWire_21 : decode cX6_shortestWire 21 = .ok (.iand, 1) := by decide +kernel
theorem dX6_shortestWire_22 : decode cX6_shortestWire 22 = .ok (.ifCond .eq 15, 3) := by decide +kernel
theorem dX6_shortestWire_25 : decode cX6_shortestWire 25 = .ok (.iload_n 3, 1) := by decide +kernel
theorem dX6_shortestWire_26 : decode cX6_shortestWire 26 = .ok (.aload_n 0, 1) := by decide +kernel
theorem dX6_shortestWire_27 : decode cX6_shortestWire 27 = .ok (.iload 4, 2) := by decide +kernel
theorem dX6_shortestWire_29 : decode cX6_shortestWire 29 = .ok (.iload_n 1, 1) := by decide +kernel
theorem dX6_shortestWire_30 : decode cX6_shortestWire 30 = .ok (.invokevirtual 54, 3) := by decide +kernel
theorem dX6_shortestWire_33 : decode cX6_shortestWire 33 = .ok (.invokestatic 71, 3) := by decide +kernel
theorem dX6_shortestWire_36 : decode cX6_shortestWire 36 = .ok (.istore_n 3, 1) := by decide +kernel
theorem dX6_shortestWire_37 : decode cX6_shortestWire 37 = .ok (.iinc 4 1, 3) := by decide +kernel
theorem dX6_shortestWire_40 : decode cX6_shortestWire 40 = .ok (.goto (-33), 3) := by decide +kernel
theorem dX6_shortestWire_43 : decode cX6_shortestWire 43 = .ok (.iload_n 3, 1) := by decide +kernel
theorem dX6_shortestWire_44 : decode cX6_shortestWire 44 = .ok (.ireturn, 1) := by decide +kernel
theorem dX6_costOfHolding_0 : decode cX6_costOfHolding 0 = .ok (.iconst 0, 1) := by decide +kernel
theorem dX6_costOfHolding_1 : decode cX6_costOfHolding 1 = .ok (.istore 4, 2) := by decide +kernel
theorem dX6_costOfHolding_3 : decode cX6_costOfHolding 3 = .ok (.iconst 0, 1) := by decide +kernel
theorem dX6_costOfHolding_4 : decode cX6_costOfHolding 4 = .ok (.istore 5, 2) := by decide +kernel
theorem dX6_costOfHolding_6 : decode cX6_costOfHolding 6 = .ok (.iload 5, 2) := by decide +kernel
theorem dX6_costOfHolding_8 : decode cX6_costOfHolding 8 = .ok (.aload_n 0, 1) := by decide +kernel
theorem dX6_costOfHolding_9 : decode cX6_costOfHolding 9 = .ok (.getfield 28, 3) := by decide +kernel
theorem dX6_costOfHolding_12 : decode cX6_costOfHolding 12 = .ok (.if_icmp .ge 32, 3) := by decide +kernel
theorem dX6_costOfHolding_15 : decode cX6_costOfHolding 15 = .ok (.iload_n 2, 1) := by decide +kernel
theorem dX6_costOfHolding_16 : decode cX6_costOfHolding 16 = .ok (.iload 5, 2) := by decide +kernel
theorem dX6_costOfHolding_18 : decode cX6_costOfHolding 18 = .ok (.ishr, 1) := by decide +kernel
theorem dX6_costOfHolding_19 : decode cX6_costOfHolding 19 = .ok (.iconst 1, 1) := by decide +kernel
theorem dX6_costOfHolding_20 : decode cX6_costOfHolding 20 = .ok (.iand, 1) := by decide +kernel
theorem dX6_costOfHolding_21 : decode cX6_costOfHolding 21 = .ok (.ifCond .eq 17, 3) := by decide +kernel
theorem dX6_costOfHolding_24 : decode cX6_costOfHolding 24 = .ok (.iload 4, 2) := by decide +kernel
theorem dX6_costOfHolding_26 : decode cX6_costOfHolding 26 = .ok (.iload_n 3, 1) := by decide +kernel
theorem dX6_costOfHolding_27 : decode cX6_costOfHolding 27 = .ok (.aload_n 0, 1) := by decide +kernel
theorem dX6_costOfHolding_28 : decode cX6_costOfHolding 28 = .ok (.iload 5, 2) := by decide +kernel
theorem dX6_costOfHolding_30 : decode cX6_costOfHolding 30 = .ok (.iload_n 1, 1) := by decide +kernel
theorem dX6_costOfHolding_31 : decode cX6_costOfHolding 31 = .ok (.invokevirtual 54, 3) := by decide +kernel
theorem dX6_costOfHolding_34 : decode cX6_costOfHolding 34 = .ok (.isub, 1) := by decide +kernel
theorem dX6_costOfHolding_35 : decode cX6_costOfHolding 35 = .ok (.iadd, 1) := by decide +kernel
theorem dX6_costOfHolding_36 : decode cX6_costOfHolding 36 = .ok (.istore 4, 2) := by decide +kernel
theorem dX6_costOfHolding_38 : decode cX6_costOfHolding 38 = .ok (.iinc 5 1, 3) := by decide +kernel
theorem dX6_costOfHolding_41 : decode cX6_costOfHolding 41 = .ok (.goto (-35), 3) := by decide +kernel
theorem dX6_costOfHolding_44 : decode cX6_costOfHolding 44 = .ok (.iload 4, 2) := by decide +kernel
theorem dX6_costOfHolding_46 : decode cX6_costOfHolding 46 = .ok (.ireturn, 1) := by decide +kernel
theorem dX6_leastBeat_0 : decode cX6_leastBeat 0 = .ok (.getstatic 74, 3) := by decide +kernel
theorem dX6_leastBeat_3 : decode cX6_leastBeat 3 = .ok (.iconst 5, 1) := by decide +kernel
theorem dX6_leastBeat_4 : decode cX6_leastBeat 4 = .ok (.iaload, 1) := by decide +kernel
theorem dX6_leastBeat_5 : decode cX6_leastBeat 5 = .ok (.istore_n 2, 1) := by decide +kernel
theorem dX6_leastBeat_6 : decode cX6_leastBeat 6 = .ok (.iconst 0, 1) := by decide +kernel
theorem dX6_leastBeat_7 : decode cX6_leastBeat 7 = .ok (.istore_n 3, 1) := by decide +kernel
theorem dX6_leastBeat_8 : decode cX6_leastBeat 8 = .ok (.iload_n 3, 1) := by decide +kernel
theorem dX6_leastBeat_9 : decode cX6_leastBeat 9 = .ok (.aload_n 0, 1) := by decide +kernel
theorem dX6_leastBeat_10 : decode cX6_leastBeat 10 = .ok (.getfield 28, 3) := by decide +kernel
theorem dX6_leastBeat_13 : decode cX6_leastBeat 13 = .ok (.if_icmp .ge 28, 3) := by decide +kernel
theorem dX6_leastBeat_16 : decode cX6_leastBeat 16 = .ok (.iload_n 1, 1) := by decide +kernel
theorem dX6_leastBeat_17 : decode cX6_leastBeat 17 = .ok (.iload_n 3, 1) := by decide +kernel
theorem dX6_leastBeat_18 : decode cX6_leastBeat 18 = .ok (.ishr, 1) := by decide +kernel
theorem dX6_leastBeat_19 : decode cX6_leastBeat 19 = .ok (.iconst 1, 1) := by decide +kernel
theorem dX6_leastBeat_20 : decode cX6_leastBeat 20 = .ok (.iand, 1) := by decide +kernel
theorem dX6_leastBeat_21 : decode cX6_leastBeat 21 = .ok (.ifCond .eq 14, 3) := by decide +kernel
theorem dX6_leastBeat_24 : decode cX6_leastBeat 24 = .ok (.iload_n 2, 1) := by decide +kernel
theorem dX6_leastBeat_25 : decode cX6_leastBeat 25 = .ok (.aload_n 0, 1) := by decide +kernel
theorem dX6_leastBeat_26 : decode cX6_leastBeat 26 = .ok (.iload_n 3, 1) := by decide +kernel
theorem dX6_leastBeat_27 : decode cX6_leastBeat 27 = .ok (.iconst 5, 1) := by decide +kernel
theorem dX6_leastBeat_28 : decode cX6_leastBeat 28 = .ok (.invokevirtual 44, 3) := by decide +kernel
theorem dX6_leastBeat_31 : decode cX6_leastBeat 31 = .ok (.invokestatic 71, 3) := by decide +kernel
theorem dX6_leastBeat_34 : decode cX6_leastBeat 34 = .ok (.istore_n 2, 1) := by decide +kernel
theorem dX6_leastBeat_35 : decode cX6_leastBeat 35 = .ok (.iinc 3 1, 3) := by decide +kernel
theorem dX6_leastBeat_38 : decode cX6_leastBeat 38 = .ok (.goto (-30), 3) := by decide +kernel
theorem dX6_leastBeat_41 : decode cX6_leastBeat 41 = .ok (.iload_n 2, 1) := by decide +kernel
theorem dX6_leastBeat_42 : decode cX6_leastBeat 42 = .ok (.ireturn, 1) := by decide +kernel
theorem dX6_losesWord_0 : decode cX6_losesWord 0 = .ok (.aload_n 0, 1) := by decide +kernel
theorem dX6_losesWord_1 : decode cX6_losesWord 1 = .ok (.getfield 25, 3) := by decide +kernel
theorem dX6_losesWord_4 : decode cX6_losesWord 4 = .ok (.iload_n 1, 1) := by decide +kernel
theorem dX6_losesWord_5 : decode cX6_losesWord 5 = .ok (.iconst 1, 1) := by decide +kernel
theorem dX6_losesWord_6 : decode cX6_losesWord 6 = .ok (.isub, 1) := by decide +kernel
theorem dX6_losesWord_7 : decode cX6_losesWord 7 = .ok (.bipush 8, 2) := by decide +kernel
theorem dX6_losesWord_9 : decode cX6_losesWord 9 = .ok (.imul, 1) := by decide +kernel
theorem dX6_losesWord_10 : decode cX6_losesWord 10 = .ok (.iload_n 2, 1) := by decide +kernel
theorem dX6_losesWord_11 : decode cX6_losesWord 11 = .ok (.iadd, 1) := by decide +kernel
theorem dX6_losesWord_12 : decode cX6_losesWord 12 = .ok (.iaload, 1) := by decide +kernel
theorem dX6_losesWord_13 : decode cX6_losesWord 13 = .ok (.iload_n 3, 1) := by decide +kernel
theorem dX6_losesWord_14 : decode cX6_losesWord 14 = .ok (.ishr, 1) := by decide +kernel
theorem dX6_losesWord_15 : decode cX6_losesWord 15 = .ok (.iconst 1, 1) := by decide +kernel
theorem dX6_losesWord_16 : decode cX6_losesWord 16 = .ok (.iand, 1) := by decide +kernel
theorem dX6_losesWord_17 : decode cX6_losesWord 17 = .ok (.ifCond .eq 7, 3) := by decide +kernel
theorem dX6_losesWord_20 : decode cX6_losesWord 20 = .ok (.iconst 1, 1) := by decide +kernel
theorem dX6_losesWord_21 : decode cX6_losesWord 21 = .ok (.goto 4, 3) := by decide +kernel
theorem dX6_losesWord_24 : decode cX6_losesWord 24 = .ok (.iconst 0, 1) := by decide +kernel
theorem dX6_losesWord_25 : decode cX6_losesWord 25 = .ok (.ireturn, 1) := by decide +kernel
theorem dX6_loseWord_0 : decode cX6_loseWord 0 = .ok (.aload_n 0, 1) := by decide +kernel
theorem dX6_loseWord_1 : decode cX6_loseWord 1 = .ok (.iload_n 1, 1) := by decide +kernel
theorem dX6_loseWord_2 : decode cX6_loseWord 2 = .ok (.iload_n 2, 1) := by decide +kernel
theorem dX6_loseWord_3 : decode cX6_loseWord 3 = .ok (.iload_n 3, 1) := by decide +kernel
theorem dX6_loseWord_4 : decode cX6_loseWord 4 = .ok (.invokevirtual 77, 3) := by decide +kernel
theorem dX6_loseWord_7 : decode cX6_loseWord 7 = .ok (.ifCond .eq 7, 3) := by decide +kernel
theorem dX6_loseWord_10 : decode cX6_loseWord 10 = .ok (.iconst 1, 1) := by decide +kernel
theorem dX6_loseWord_11 : decode cX6_loseWord 11 = .ok (.goto 4, 3) := by decide +kernel
theorem dX6_loseWord_14 : decode cX6_loseWord 14 = .ok (.iconst 0, 1) := by decide +kernel
theorem dX6_loseWord_15 : decode cX6_loseWord 15 = .ok (.istore 5, 2) := by decide +kernel
theorem dX6_loseWord_17 : decode cX6_loseWord 17 = .ok (.iload_n 1, 1) := by decide +kernel
theorem dX6_loseWord_18 : decode cX6_loseWord 18 = .ok (.iconst 1, 1) := by decide +kernel
theorem dX6_loseWord_19 : decode cX6_loseWord 19 = .ok (.isub, 1) := by decide +kernel
theorem dX6_loseWord_20 : decode cX6_loseWord 20 = .ok (.bipush 8, 2) := by decide +kernel
theorem dX6_loseWord_22 : decode cX6_loseWord 22 = .ok (.imul, 1) := by decide +kernel
theorem dX6_loseWord_23 : decode cX6_loseWord 23 = .ok (.iload_n 2, 1) := by decide +kernel
theorem dX6_loseWord_24 : decode cX6_loseWord 24 = .ok (.iadd, 1) := by decide +kernel
theorem dX6_loseWord_25 : decode cX6_loseWord 25 = .ok (.istore 6, 2) := by decide +kernel
theorem dX6_loseWord_27 : decode cX6_loseWord 27 = .ok (.aload_n 0, 1) := by decide +kernel
theorem dX6_loseWord_28 : decode cX6_loseWord 28 = .ok (.getfield 25, 3) := by decide +kernel
theorem dX6_loseWord_31 : decode cX6_loseWord 31 = .ok (.iload 6, 2) := by decide +kernel
theorem dX6_loseWord_33 : decode cX6_loseWord 33 = .ok (.iload 4, 2) := by decide +kernel
theorem dX6_loseWord_35 : decode cX6_loseWord 35 = .ok (.ifCond .eq 17, 3) := by decide +kernel
theorem dX6_loseWord_38 : decode cX6_loseWord 38 = .ok (.aload_n 0, 1) := by decide +kernel
theorem dX6_loseWord_39 : decode cX6_loseWord 39 = .ok (.getfield 25, 3) := by decide +kernel
theorem dX6_loseWord_42 : decode cX6_loseWord 42 = .ok (.iload 6, 2) := by decide +kernel
theorem dX6_loseWord_44 : decode cX6_loseWord 44 = .ok (.iaload, 1) := by decide +kernel
theorem dX6_loseWord_45 : decode cX6_loseWord 45 = .ok (.iconst 1, 1) := by decide +kernel
theorem dX6_loseWord_46 : decode cX6_loseWord 46 = .ok (.iload_n 3, 1) := by decide +kernel
theorem dX6_loseWord_47 : decode cX6_loseWord 47 = .ok (.ishl, 1) := by decide +kernel
theorem dX6_loseWord_48 : decode cX6_loseWord 48 = .ok (.ior, 1) := by decide +kernel
theorem dX6_loseWord_49 : decode cX6_loseWord 49 = .ok (.goto 16, 3) := by decide +kernel
theorem dX6_loseWord_52 : decode cX6_loseWord 52 = .ok (.aload_n 0, 1) := by decide +kernel
theorem dX6_loseWord_53 : decode cX6_loseWord 53 = .ok (.getfield 25, 3) := by decide +kernel
theorem dX6_loseWord_56 : decode cX6_loseWord 56 = .ok (.iload 6, 2) := by decide +kernel
theorem dX6_loseWord_58 : decode cX6_loseWord 58 = .ok (.iaload, 1) := by decide +kernel
theorem dX6_loseWord_59 : decode cX6_loseWord 59 = .ok (.iconst 1, 1) := by decide +kernel
theorem dX6_loseWord_60 : decode cX6_loseWord 60 = .ok (.iload_n 3, 1) := by decide +kernel
theorem dX6_loseWord_61 : decode cX6_loseWord 61 = .ok (.ishl, 1) := by decide +kernel
theorem dX6_loseWord_62 : decode cX6_loseWord 62 = .ok (.iconst (-1), 1) := by decide +kernel
theorem dX6_loseWord_63 : decode cX6_loseWord 63 = .ok (.ixor, 1) := by decide +kernel
theorem dX6_loseWord_64 : decode cX6_loseWord 64 = .ok (.iand, 1) := by decide +kernel
theorem dX6_loseWord_65 : decode cX6_loseWord 65 = .ok (.iastore, 1) := by decide +kernel
theorem dX6_loseWord_66 : decode cX6_loseWord 66 = .ok (.iload 5, 2) := by decide +kernel
theorem dX6_loseWord_68 : decode cX6_loseWord 68 = .ok (.ireturn, 1) := by decide +kernel
theorem dX7_init_0 : decode cX7_init 0 = .ok (.aload_n 0, 1) := by decide +kernel
theorem dX7_init_1 : decode cX7_init 1 = .ok (.invokespecial 3, 3) := by decide +kernel
theorem dX7_init_4 : decode cX7_init 4 = .ok (.aload_n 0, 1) := by decide +kernel
theorem dX7_init_5 : decode cX7_init 5 = .ok (.iconst (-1), 1) := by decide +kernel
theorem dX7_init_6 : decode cX7_init 6 = .ok (.putfield 9, 3) := by decide +kernel
theorem dX7_init_9 : decode cX7_init 9 = .ok (.aload_n 0, 1) := by decide +kernel
theorem dX7_init_10 : decode cX7_init 10 = .ok (.bipush 40, 2) := by decide +kernel
theorem dX7_init_12 : decode cX7_init 12 = .ok (.newarray .int, 2) := by decide +kernel
theorem dX7_init_14 : decode cX7_init 14 = .ok (.putfield 15, 3) := by decide +kernel
theorem dX7_init_17 : decode cX7_init 17 = .ok (.return_, 1) := by decide +kernel
theorem dX7_refusal_0 : decode cX7_refusal 0 = .ok (.aload_n 0, 1) := by decide +kernel
theorem dX7_refusal_1 : decode cX7_refusal 1 = .ok (.getfield 9, 3) := by decide +kernel
theorem dX7_refusal_4 : decode cX7_refusal 4 = .ok (.iconst (-1), 1) := by decide +kernel
theorem dX7_refusal_5 : decode cX7_refusal 5 = .ok (.if_icmp .ne 6, 3) := by decide +kernel
theorem dX7_refusal_8 : decode cX7_refusal 8 = .ok (.bipush (-11), 2) := by decide +kernel
theorem dX7_refusal_10 : decode cX7_refusal 10 = .ok (.ireturn, 1) := by decide +kernel
theorem dX7_refusal_11 : decode cX7_refusal 11 = .ok (.aload_n 0, 1) := by decide +kernel
theorem dX7_refusal_12 : decode cX7_refusal 12 = .ok (.getfield 9, 3) := by decide +kernel
theorem dX7_refusal_15 : decode cX7_refusal 15 = .ok (.iload_n 1, 1) := by decide +kernel
theorem dX7_refusal_16 : decode cX7_refusal 16 = .ok (.if_icmp .ne 7, 3) := by decide +kernel
theorem dX7_refusal_19 : decode cX7_refusal 19 = .ok (.iconst 0, 1) := by decide +kernel
theorem dX7_refusal_20 : decode cX7_refusal 20 = .ok (.goto 5, 3) := by decide +kernel
theorem dX7_refusal_23 : decode cX7_refusal 23 = .ok (.bipush (-12), 2) := by decide +kernel
theorem dX7_refusal_25 : decode cX7_refusal 25 = .ok (.ireturn, 1) := by decide +kernel
theorem dX7_holds_0 : decode cX7_holds 0 = .ok (.iload_n 1, 1) := by decide +kernel
theorem dX7_holds_1 : decode cX7_holds 1 = .ok (.ifCond .lt 29, 3) := by decide +kernel
theorem dX7_holds_4 : decode cX7_holds 4 = .ok (.iload_n 2, 1) := by decide +kernel
theorem dX7_holds_5 : decode cX7_holds 5 = .ok (.ifCond .lt 25, 3) := by decide +kernel
theorem dX7_holds_8 : decode cX7_holds 8 = .ok (.iload_n 2, 1) := by decide +kernel
theorem dX7_holds_9 : decode cX7_holds 9 = .ok (.aload_n 0, 1) := by decide +kernel
theorem dX7_holds_10 : decode cX7_holds 10 = .ok (.getfield 19, 3) := by decide +kernel
theorem dX7_holds_13 : decode cX7_holds 13 = .ok (.if_icmp .gt 17, 3) := by decide +kernel
theorem dX7_holds_16 : decode cX7_holds 16 = .ok (.iload_n 1, 1) := by decide +kernel
theorem dX7_holds_17 : decode cX7_holds 17 = .ok (.aload_n 0, 1) := by decide +kernel
theorem dX7_holds_18 : decode cX7_holds 18 = .ok (.getfield 19, 3) := by decide +kernel
theorem dX7_holds_21 : decode cX7_holds 21 = .ok (.iload_n 2, 1) := by decide +kernel
theorem dX7_holds_22 : decode cX7_holds 22 = .ok (.isub, 1) := by decide +kernel
theorem dX7_holds_23 : decode cX7_holds 23 = .ok (.if_icmp .gt 7, 3) := by decide +kernel
theorem dX7_holds_26 : decode cX7_holds 26 = .ok (.iconst 1, 1) := by decide +kernel
theorem dX7_holds_27 : decode cX7_holds 27 = .ok (.goto 4, 3) := by decide +kernel
theorem dX7_holds_30 : decode cX7_holds 30 = .ok (.iconst 0, 1) := by decide +kernel
theorem dX7_holds_31 : decode cX7_holds 31 = .ok (.ireturn, 1) := by decide +kernel
theorem dX7_renew_0 : decode cX7_renew 0 = .ok (.aload_n 0, 1) := by decide +kernel
theorem dX7_renew_1 : decode cX7_renew 1 = .ok (.iload_n 1, 1) := by decide +kernel
theorem dX7_renew_2 : decode cX7_renew 2 = .ok (.putfield 9, 3) := by decide +kernel
theorem dX7_renew_5 : decode cX7_renew 5 = .ok (.aload_n 0, 1) := by decide +kernel
theorem dX7_renew_6 : decode cX7_renew 6 = .ok (.iload_n 2, 1) := by decide +kernel
theorem dX7_renew_7 : decode cX7_renew 7 = .ok (.putfield 19, 3) := by decide +kernel
theorem dX7_renew_10 : decode cX7_renew 10 = .ok (.aload_n 0, 1) := by decide +kernel
theorem dX7_renew_11 : decode cX7_renew 11 = .ok (.getfield 15, 3) := by decide +kernel
theorem dX7_renew_14 : decode cX7_renew 14 = .ok (.iconst 0, 1) := by decide +kernel
theorem dX7_renew_15 : decode cX7_renew 15 = .ok (.invokestatic 22, 3) := by decide +kernel
theorem dX7_renew_18 : decode cX7_renew 18 = .ok (.iload_n 2, 1) := by decide +kernel
theorem dX7_renew_19 : decode cX7_renew 19 = .ok (.ireturn, 1) := by decide +kernel
theorem dX7_empty_0 : decode cX7_empty 0 = .ok (.aload_n 0, 1) := by decide +kernel
theorem dX7_empty_1 : decode cX7_empty 1 = .ok (.iconst (-1), 1) := by decide +kernel
theorem dX7_empty_2 : decode cX7_empty 2 = .ok (.putfield 9, 3) := by decide +kernel
theorem dX7_empty_5 : decode cX7_empty 5 = .ok (.aload_n 0, 1) := by decide +kernel
theorem dX7_empty_6 : decode cX7_empty 6 = .ok (.getfield 19, 3) := by decide +kernel
theorem dX7_empty_9 : decode cX7_empty 9 = .ok (.ireturn, 1) := by decide +kernel
theorem dX7_put_0 : decode cX7_put 0 = .ok (.aload_n 0, 1) := by decide +kernel
theorem dX7_put_1 : decode cX7_put 1 = .ok (.getfield 15, 3) := by decide +kernel
theorem dX7_put_4 : decode cX7_put 4 = .ok (.iload_n 1, 1) := by decide +kernel
theorem dX7_put_5 : decode cX7_put 5 = .ok (.aload_n 0, 1) := by decide +kernel
theorem dX7_put_6 : decode cX7_put 6 = .ok (.getfield 9, 3) := by decide +kernel
theorem dX7_put_9 : decode cX7_put 9 = .ok (.ifCond .ne 8, 3) := by decide +kernel
theorem dX7_put_12 : decode cX7_put 12 = .ok (.iload_n 2, 1) := by decide +kernel
theorem dX7_put_13 : decode cX7_put 13 = .ok (.i2b, 1) := by decide +kernel
theorem dX7_put_14 : decode cX7_put 14 = .ok (.goto 17, 3) := by decide +kernel
theorem dX7_put_17 : decode cX7_put 17 = .ok (.aload_n 0, 1) := by decide +kernel
theorem dX7_put_18 : decode cX7_put 18 = .ok (.getfield 9, 3) := by decide +kernel
theorem dX7_put_21 : decode cX7_put 21 = .ok (.iconst 1, 1) := by decide +kernel
theorem dX7_put_22 : decode cX7_put 22 = .ok (.if_icmp .ne 8, 3) := by decide +kernel
theorem dX7_put_25 : decode cX7_put 25 = .ok (.iload_n 2, 1) := by decide +kernel
theorem dX7_put_26 : decode cX7_put 26 = .ok (.i2s, 1) := by decide +kernel
theorem dX7_put_27 : decode cX7_put 27 = .ok (.goto 4, 3) := by decide +kernel
theorem dX7_put_30 : decode cX7_put 30 = .ok (.iload_n 2, 1) := by decide +kernel
theorem dX7_put_31 : decode cX7_put 31 = .ok (.iastore, 1) := by decide +kernel
theorem dX7_put_32 : decode cX7_put 32 = .ok (.iconst 1, 1) := by decide +kernel
theorem dX7_put_33 : decode cX7_put 33 = .ok (.ireturn, 1) := by decide +kernel
theorem dX8_init_0 : decode cX8_init 0 = .ok (.aload_n 0, 1) := by decide +kernel
theorem dX8_init_1 : decode cX8_init 1 = .ok (.invokespecial 3, 3) := by decide +kernel
theorem dX8_init_4 : decode cX8_init 4 = .ok (.aload_n 0, 1) := by decide +kernel
theorem dX8_init_5 : decode cX8_init 5 = .ok (.new 9, 3) := by decide +kernel
theorem dX8_init_8 : decode cX8_init 8 = .ok (.dup, 1) := by decide +kernel
theorem dX8_init_9 : decode cX8_init 9 = .ok (.invokespecial 11, 3) := by decide +kernel
theorem dX8_init_12 : decode cX8_init 12 = .ok (.putfield 12, 3) := by decide +kernel
theorem dX8_init_15 : decode cX8_init 15 = .ok (.aload_n 0, 1) := by decide +kernel
theorem dX8_init_16 : decode cX8_init 16 = .ok (.bipush 120, 2) := by decide +kernel
theorem dX8_init_18 : decode cX8_init 18 = .ok (.newarray .byte, 2) := by decide +kernel
theorem dX8_init_20 : decode cX8_init 20 = .ok (.putfield 18, 3) := by decide +kernel
theorem dX8_init_23 : decode cX8_init 23 = .ok (.return_, 1) := by decide +kernel
theorem dX8_canStand_0 : decode cX8_canStand 0 = .ok (.iconst 0, 1) := by decide +kernel
theorem dX8_canStand_1 : decode cX8_canStand 1 = .ok (.istore_n 3, 1) := by decide +kernel
theorem dX8_canStand_2 : decode cX8_canStand 2 = .ok (.iload_n 3, 1) := by decide +kernel
theorem dX8_canStand_3 : decode cX8_canStand 3 = .ok (.iload_n 2, 1) := by decide +kernel
theorem dX8_canStand_4 : decode cX8_canStand 4 = .ok (.if_icmp .ge 38, 3) := by decide +kernel
theorem dX8_canStand_7 : decode cX8_canStand 7 = .ok (.lload_n 0, 1) := by decide +kernel
theorem dX8_canStand_8 : decode cX8_canStand 8 = .ok (.bipush 8, 2) := by decide +kernel
theorem dX8_canStand_10 : decode cX8_canStand 10 = .ok (.iload_n 3, 1) := by decide +kernel
theorem dX8_canStand_11 : decode cX8_canStand 11 = .ok (.imul, 1) := by decide +kernel
theorem dX8_canStand_12 : decode cX8_canStand 12 = .ok (.lshr, 1) := by decide +kernel
theorem dX8_canStand_13 : decode cX8_canStand 13 = .ok (.l2i, 1) := by decide +kernel
theorem dX8_canStand_14 : decode cX8_canStand 14 = .ok (.sipush 255, 3) := by decide +kernel
theorem dX8_canStand_17 : decode cX8_canStand 17 = .ok (.iand, 1) := by decide +kernel
theorem dX8_canStand_18 : decode cX8_canStand 18 = .ok (.istore 4, 2) := by decide +kernel
theorem dX8_canStand_20 : decode cX8_canStand 20 = .ok (.iload 4, 2) := by decide +kernel
theorem dX8_canStand_22 : decode cX8_canStand 22 = .ok (.bipush 32, 2) := by decide +kernel
theorem dX8_canStand_24 : decode cX8_canStand 24 = .ok (.if_icmp .lt 10, 3) := by decide +kernel
theorem dX8_canStand_27 : decode cX8_canStand 27 = .ok (.iload 4, 2) := by decide +kernel
theorem dX8_canStand_29 : decode cX8_canStand 29 = .ok (.bipush 126, 2) := by decide +kernel
theorem dX8_canStand_31 : decode cX8_canStand 31 = .ok (.if_icmp .le 5, 3) := by decide +kernel
theorem dX8_canStand_34 : decode cX8_canStand 34 = .ok (.iconst 0, 1) := by decide +kernel
theorem dX8_canStand_35 : decode cX8_canStand 35 = .ok (.ireturn, 1) := by decide +kernel
theorem dX8_canStand_36 : decode cX8_canStand 36 = .ok (.iinc 3 1, 3) := by decide +kernel
theorem dX8_canStand_39 : decode cX8_canStand 39 = .ok (.goto (-37), 3) := by decide +kernel
theorem dX8_canStand_42 : decode cX8_canStand 42 = .ok (.iconst 1, 1) := by decide +kernel
theorem dX8_canStand_43 : decode cX8_canStand 43 = .ok (.ireturn, 1) := by decide +kernel
theorem dX8_append_0 : decode cX8_append 0 = .ok (.iload_n 3, 1) := by decide +kernel
theorem dX8_append_1 : decode cX8_append 1 = .ok (.iconst 1, 1) := by decide +kernel
theorem dX8_append_2 : decode cX8_append 2 = .ok (.isub, 1) := by decide +kernel
theorem dX8_append_3 : decode cX8_append 3 = .ok (.istore 4, 2) := by decide +kernel
theorem dX8_append_5 : decode cX8_append 5 = .ok (.iload 4, 2) := by decide +kernel
theorem dX8_append_7 : decode cX8_append 7 = .ok (.ifCond .lt 37, 3) := by decide +kernel
theorem dX8_append_10 : decode cX8_append 10 = .ok (.aload_n 0, 1) := by decide +kernel
theorem dX8_append_11 : decode cX8_append 11 = .ok (.getfield 18, 3) := by decide +kernel
theorem dX8_append_14 : decode cX8_append 14 = .ok (.aload_n 0, 1) := by decide +kernel
theorem dX8_append_15 : decode cX8_append 15 = .ok (.getfield 22, 3) := by decide +kernel
theorem dX8_append_18 : decode cX8_append 18 = .ok (.lload_n 1, 1) := by decide +kernel
theorem dX8_append_19 : decode cX8_append 19 = .ok (.bipush 8, 2) := by decide +kernel
theorem dX8_append_21 : decode cX8_append 21 = .ok (.iload 4, 2) := by decide +kernel
theorem dX8_append_23 : decode cX8_append 23 = .ok (.imul, 1) := by decide +kernel
theorem dX8_append_24 : decode cX8_append 24 = .ok (.lshr, 1) := by decide +kernel
theorem dX8_append_25 : decode cX8_append 25 = .ok (.l2i, 1) := by decide +kernel
theorem dX8_append_26 : decode cX8_append 26 = .ok (.i2b, 1) := by decide +kernel
theorem dX8_append_27 : decode cX8_append 27 = .ok (.bastore, 1) := by decide +kernel
theorem dX8_append_28 : decode cX8_append 28 = .ok (.aload_n 0, 1) := by decide +kernel
theorem dX8_append_29 : decode cX8_append 29 = .ok (.dup, 1) := by decide +kernel
theorem dX8_append_30 : decode cX8_append 30 = .ok (.getfield 22, 3) := by decide +kernel
theorem dX8_append_33 : decode cX8_append 33 = .ok (.iconst 1, 1) := by decide +kernel
theorem dX8_append_34 : decode cX8_append 34 = .ok (.iadd, 1) := by decide +kernel
theorem dX8_append_35 : decode cX8_append 35 = .ok (.putfield 22, 3) := by decide +kernel
theorem dX8_append_38 : decode cX8_append 38 = .ok (.iinc 4 (-1), 3) := by decide +kernel
theorem dX8_append_41 : decode cX8_append 41 = .ok (.goto (-36), 3) := by decide +kernel
theorem dX8_append_44 : decode cX8_append 44 = .ok (.aload_n 0, 1) := by decide +kernel
theorem dX8_append_45 : decode cX8_append 45 = .ok (.getfield 22, 3) := by decide +kernel
theorem dX8_append_48 : decode cX8_append 48 = .ok (.ireturn, 1) := by decide +kernel
theorem dX8_read_0 : decode cX8_read 0 = .ok (.aload_n 0, 1) := by decide +kernel
theorem dX8_read_1 : decode cX8_read 1 = .ok (.getfield 12, 3) := by decide +kernel
theorem dX8_read_4 : decode cX8_read 4 = .ok (.iconst 0, 1) := by decide +kernel
theorem dX8_read_5 : decode cX8_read 5 = .ok (.putfield 26, 3) := by decide +kernel
theorem dX8_read_8 : decode cX8_read 8 = .ok (.aload_n 0, 1) := by decide +kernel
theorem dX8_read_9 : decode cX8_read 9 = .ok (.iconst 0, 1) := by decide +kernel
theorem dX8_read_10 : decode cX8_read 10 = .ok (.putfield 27, 3) := by decide +kernel
theorem dX8_read_13 : decode cX8_read 13 = .ok (.iconst 0, 1) := by decide +kernel
theorem dX8_read_14 : decode cX8_read 14 = .ok (.istore_n 1, 1) := by decide +kernel
theorem dX8_read_15 : decode cX8_read 15 = .ok (.iload_n 1, 1) := by decide +kernel
theorem dX8_read_16 : decode cX8_read 16 = .ok (.bipush 40, 2) := by decide +kernel
theorem dX8_read_18 : decode cX8_read 18 = .ok (.if_icmp .gt 40, 3) := by decide +kernel
theorem dX8_read_21 : decode cX8_read 21 = .ok (.iload_n 1, 1) := by decide +kernel
theorem dX8_read_22 : decode cX8_read 22 = .ok (.ifCond .le 19, 3) := by decide +kernel
theorem dX8_read_25 : decode cX8_read 25 = .ok (.aload_n 0, 1) := by decide +kernel
theorem dX8_read_26 : decode cX8_read 26 = .ok (.invokevirtual 30, 3) := by decide +kernel
theorem dX8_read_29 : decode cX8_read 29 = .ok (.iconst (-1), 1) := by decide +kernel
theorem dX8_read_30 : decode cX8_read 30 = .ok (.if_icmp .ne 11, 3) := by decide +kernel
theorem dX8_read_33 : decode cX8_read 33 = .ok (.aload_n 0, 1) := by decide +kernel
theorem dX8_read_34 : decode cX8_read 34 = .ok (.getfield 12, 3) := by decide +kernel
theorem dX8_read_37 : decode cX8_read 37 = .ok (.getfield 26, 3) := by decide +kernel
theorem dX8_read_40 : decode cX8_read 40 = .ok (.ireturn, 1) := by decide +kernel
theorem dX8_read_41 : decode cX8_read 41 = .ok (.aload_n 0, 1) := by decide +kernel
theorem dX8_read_42 : decode cX8_read 42 = .ok (.iload_n 1, 1) := by decide +kernel
theorem dX8_read_43 : decode cX8_read 43 = .ok (.invokevirtual 34, 3) := by decide +kernel
theorem dX8_read_46 : decode cX8_read 46 = .ok (.ifCond .ne 6, 3) := by decide +kernel
theorem dX8_read_49 : decode cX8_read 49 = .ok (.goto 9, 3) := by decide +kernel
theorem dX8_read_52 : decode cX8_read 52 = .ok (.iinc 1 1, 3) := by decide +kernel
theorem dX8_read_55 : decode cX8_read 55 = .ok (.goto (-40), 3) := by decide +kernel
theorem dX8_read_58 : decode cX8_read 58 = .ok (.bipush (-20), 2) := by decide +kernel
theorem dX8_read_60 : decode cX8_read 60 = .ok (.aload_n 0, 1) := by decide +kernel
theorem dX8_read_61 : decode cX8_read 61 = .ok (.getfield 27, 3) := by decide +kernel
theorem dX8_read_64 : decode cX8_read 64 = .ok (.isub, 1) := by decide +kernel
theorem dX8_read_65 : decode cX8_read 65 = .ok (.ireturn, 1) := by decide +kernel
theorem dX8_readSound_0 : decode cX8_readSound 0 = .ok (.aload_n 0, 1) := by decide +kernel
theorem dX8_readSound_1 : decode cX8_readSound 1 = .ok (.invokevirtual 30, 3) := by decide +kernel
theorem dX8_readSound_4 : decode cX8_readSound 4 = .ok (.istore_n 2, 1) := by decide +kernel
theorem dX8_readSound_5 : decode cX8_readSound 5 = .ok (.iload_n 2, 1) := by decide +kernel
theorem dX8_readSound_6 : decode cX8_readSound 6 = .ok (.bipush 45, 2) := by decide +kernel
theorem dX8_readSound_8 : decode cX8_readSound 8 = .ok (.if_icmp .eq 17, 3) := by decide +kernel
theorem dX8_readSound_11 : decode cX8_readSound 11 = .ok (.iload_n 2, 1) := by decide +kernel
theorem dX8_readSound_12 : decode cX8_readSound 12 = .ok (.bipush 97, 2) := by decide +kernel
theorem dX8_readSound_14 : decode cX8_readSound 14 = .ok (.if_icmp .lt 9, 3) := by decide +kernel
theorem dX8_readSound_17 : decode cX8_readSound 17 = .ok (.iload_n 2, 1) := by decide +kernel
theorem dX8_readSound_18 : decode cX8_readSound 18 = .ok (.bipush 103, 2) := by decide +kernel
theorem dX8_readSound_20 : decode cX8_readSound 20 = .ok (.if_icmp .le 5, 3) := by decide +kernel
theorem dX8_readSound_23 : decode cX8_readSound 23 = .ok (.iconst 0, 1) := by decide +kernel
theorem dX8_readSound_24 : decode cX8_readSound 24 = .ok (.ireturn, 1) := by decide +kernel
theorem dX8_readSound_25 : decode cX8_readSound 25 = .ok (.aload_n 0, 1) := by decide +kernel
theorem dX8_readSound_26 : decode cX8_readSound 26 = .ok (.getfield 27, 3) := by decide +kernel
theorem dX8_readSound_29 : decode cX8_readSound 29 = .ok (.istore_n 3, 1) := by decide +kernel
theorem dX8_readSound_30 : decode cX8_readSound 30 = .ok (.aload_n 0, 1) := by decide +kernel
theorem dX8_readSound_31 : decode cX8_readSound 31 = .ok (.dup, 1) := by decide +kernel
theorem dX8_readSound_32 : decode cX8_readSound 32 = .ok (.getfield 27, 3) := by decide +kernel
theorem dX8_readSound_35 : decode cX8_readSound 35 = .ok (.iconst 1, 1) := by decide +kernel
theorem dX8_readSound_36 : decode cX8_readSound 36 = .ok (.iadd, 1) := by decide +kernel
theorem dX8_readSound_37 : decode cX8_readSound 37 = .ok (.putfield 27, 3) := by decide +kernel
theorem dX8_readSound_40 : decode cX8_readSound 40 = .ok (.iconst 1, 1) := by decide +kernel
theorem dX8_readSound_41 : decode cX8_readSound 41 = .ok (.istore 4, 2) := by decide +kernel
theorem dX8_readSound_43 : decode cX8_readSound 43 = .ok (.aload_n 0, 1) := by decide +kernel
theorem dX8_readSound_44 : decode cX8_readSound 44 = .ok (.invokevirtual 30, 3) := by decide +kernel
theorem dX8_readSound_47 : decode cX8_readSound 47 = .ok (.istore 5, 2) := by decide +kernel
theorem dX8_readSound_49 : decode cX8_readSound 49 = .ok (.iload 5, 2) := by decide +kernel
theorem dX8_readSound_51 : decode cX8_readSound 51 = .ok (.bipush 49, 2) := by decide +kernel
theorem dX8_readSound_53 : decode cX8_readSound 53 = .ok (.if_icmp .lt 27, 3) := by decide +kernel
theorem dX8_readSound_56 : decode cX8_readSound 56 = .ok (.iload 5, 2) := by decide +kernel
theorem dX8_readSound_58 : decode cX8_readSound 58 = .ok (.bipush 57, 2) := by decide +kernel
theorem dX8_readSound_60 : decode cX8_readSound 60 = .ok (.if_icmp .gt 20, 3) := by decide +kernel
theorem dX8_readSound_63 : decode cX8_readSound 63 = .ok (.iload 5, 2) := by decide +kernel
theorem dX8_readSound_65 : decode cX8_readSound 65 = .ok (.bipush 48, 2) := by decide +kernel
theorem dX8_readSound_67 : decode cX8_readSound 67 = .ok (.isub, 1) := by decide +kernel
theorem dX8_readSound_68 : decode cX8_readSound 68 = .ok (.istore 4, 2) := by decide +kernel
theorem dX8_readSound_70 : decode cX8_readSound 70 = .ok (.aload_n 0, 1) := by decide +kernel
theorem dX8_readSound_71 : decode cX8_readSound 71 = .ok (.dup, 1) := by decide +kernel
theorem dX8_readSound_72 : decode cX8_readSound 72 = .ok (.getfield 27, 3) := by decide +kernel
theorem dX8_readSound_75 : decode cX8_readSound 75 = .ok (.iconst 1, 1) := by decide +kernel
theorem dX8_readSound_76 : decode cX8_readSound 76 = .ok (.iadd, 1) := by decide +kernel
theorem dX8_readSound_77 : decode cX8_readSound 77 = .ok (.putfield 27, 3) := by decide +kernel
theorem dX8_readSound_80 : decode cX8_readSound 80 = .ok (.iload_n 1, 1) := by decide +kernel
theorem dX8_readSound_81 : decode cX8_readSound 81 = .ok (.bipush 40, 2) := by decide +kernel
theorem dX8_readSound_83 : decode cX8_readSound 83 = .ok (.if_icmp .eq 18, 3) := by decide +kernel
theorem dX8_readSound_86 : decode cX8_readSound 86 = .ok (.aload_n 0, 1) := by decide +kernel
theorem dX8_readSound_87 : decode cX8_readSound 87 = .ok (.getfield 12, 3) := by decide +kernel
theorem dX8_readSound_90 : decode cX8_readSound 90 = .ok (.getfield 26, 3) := by decide +kernel
theorem dX8_readSound_93 : decode cX8_readSound 93 = .ok (.iload 4, 2) := by decide +kernel
theorem dX8_readSound_95 : decode cX8_readSound 95 = .ok (.iadd, 1) := by decide +kernel
theorem dX8_readSound_96 : decode cX8_readSound 96 = .ok (.bipush 64, 2) := by decide +kernel
theorem dX8_readSound_98 : decode cX8_readSound 98 = .ok (.if_icmp .le 10, 3) := by decide +kernel
theorem dX8_readSound_101 : decode cX8_readSound 101 = .ok (.aload_n 0, 1) := by decide +kernel
theorem dX8_readSound_102 : decode cX8_readSound 102 = .ok (.iload_n 3, 1) := by decide +kernel
theorem dX8_readSound_103 : decode cX8_readSound 103 = .ok (.putfield 27, 3) := by decide +kernel
theorem dX8_readSound_106 : decode cX8_readSound 106 = .ok (.iconst 0, 1) := by decide +kernel
theorem dX8_readSound_107 : decode cX8_readSound 107 = .ok (.ireturn, 1) := by decide +kernel
theorem dX8_readSound_108 : decode cX8_readSound 108 = .ok (.aload_n 0, 1) := by decide +kernel
theorem dX8_readSound_109 : decode cX8_readSound 109 = .ok (.invokevirtual 30, 3) := by decide +kernel
theorem dX8_readSound_112 : decode cX8_readSound 112 = .ok (.bipush 46, 2) := by decide +kernel
theorem dX8_readSound_114 : decode cX8_readSound 114 = .ok (.if_icmp .ne 7, 3) := by decide +kernel
theorem dX8_readSound_117 : decode cX8_readSound 117 = .ok (.iconst 1, 1) := by decide +kernel
theorem dX8_readSound_118 : decode cX8_readSound 118 = .ok (.goto 4, 3) := by decide +kernel
theorem dX8_readSound_121 : decode cX8_readSound 121 = .ok (.iconst 0, 1) := by decide +kernel
theorem dX8_readSound_122 : decode cX8_readSound 122 = .ok (.istore 6, 2) := by decide +kernel
theorem dX8_readSound_124 : decode cX8_readSound 124 = .ok (.iload 6, 2) := by decide +kernel
theorem dX8_readSound_126 : decode cX8_readSound 126 = .ok (.ifCond .eq 13, 3) := by decide +kernel
theorem dX8_readSound_129 : decode cX8_readSound 129 = .ok (.aload_n 0, 1) := by decide +kernel
theorem dX8_readSound_130 : decode cX8_readSound 130 = .ok (.dup, 1) := by decide +kernel
theorem dX8_readSound_131 : decode cX8_readSound 131 = .ok (.getfield 27, 3) := by decide +kernel
theorem dX8_readSound_134 : decode cX8_readSound 134 = .ok (.iconst 1, 1) := by decide +kernel
theorem dX8_readSound_135 : decode cX8_readSound 135 = .ok (.iadd, 1) := by decide +kernel
theorem dX8_readSound_136 : decode cX8_readSound 136 = .ok (.putfield 27, 3) := by decide +kernel
theorem dX8_readSound_139 : decode cX8_readSound 139 = .ok (.aload_n 0, 1) := by decide +kernel
theorem dX8_readSound_140 : decode cX8_readSound 140 = .ok (.getfield 12, 3) := by decide +kernel
theorem dX8_readSound_143 : decode cX8_readSound 143 = .ok (.iload_n 2, 1) := by decide +kernel
theorem dX8_readSound_144 : decode cX8_readSound 144 = .ok (.bipush 45, 2) := by decide +kernel
theorem dX8_readSound_146 : decode cX8_readSound 146 = .ok (.if_icmp .ne 7, 3) := by decide +kernel
theorem dX8_readSound_149 : decode cX8_readSound 149 = .ok (.iconst 0, 1) := by decide +kernel
theorem dX8_readSound_150 : decode cX8_readSound 150 = .ok (.goto 9, 3) := by decide +kernel
theorem dX8_readSound_153 : decode cX8_readSound 153 = .ok (.iload_n 2, 1) := by decide +kernel
theorem dX8_readSound_154 : decode cX8_readSound 154 = .ok (.bipush 97, 2) := by decide +kernel
theorem dX8_readSound_156 : decode cX8_readSound 156 = .ok (.isub, 1) := by decide +kernel
theorem dX8_readSound_157 : decode cX8_readSound 157 = .ok (.iconst 1, 1) := by decide +kernel
theorem dX8_readSound_158 : decode cX8_readSound 158 = .ok (.iadd, 1) := by decide +kernel
theorem dX8_readSound_159 : decode cX8_readSound 159 = .ok (.iload 4, 2) := by decide +kernel
theorem dX8_readSound_161 : decode cX8_readSound 161 = .ok (.iload 6, 2) := by decide +kernel
theorem dX8_readSound_163 : decode cX8_readSound 163 = .ok (.invokevirtual 38, 3) := by decide +kernel
theorem dX8_readSound_166 : decode cX8_readSound 166 = .ok (.iconst 1, 1) := by decide +kernel
theorem dX8_readSound_167 : decode cX8_readSound 167 = .ok (.ireturn, 1) := by decide +kernel
theorem dX8_peek_0 : decode cX8_peek 0 = .ok (.aload_n 0, 1) := by decide +kernel
theorem dX8_peek_1 : decode cX8_peek 1 = .ok (.getfield 27, 3) := by decide +kernel
theorem dX8_peek_4 : decode cX8_peek 4 = .ok (.aload_n 0, 1) := by decide +kernel
theorem dX8_peek_5 : decode cX8_peek 5 = .ok (.getfield 22, 3) := by decide +kernel
theorem dX8_peek_8 : decode cX8_peek 8 = .ok (.if_icmp .ge 30, 3) := by decide +kernel
theorem dX8_peek_11 : decode cX8_peek 11 = .ok (.aload_n 0, 1) := by decide +kernel
theorem dX8_peek_12 : decode cX8_peek 12 = .ok (.getfield 18, 3) := by decide +kernel
theorem dX8_peek_15 : decode cX8_peek 15 = .ok (.aload_n 0, 1) := by decide +kernel
theorem dX8_peek_16 : decode cX8_peek 16 = .ok (.getfield 27, 3) := by decide +kernel
theorem dX8_peek_19 : decode cX8_peek 19 = .ok (.baload, 1) := by decide +kernel
theorem dX8_peek_20 : decode cX8_peek 20 = .ok (.bipush 32, 2) := by decide +kernel
theorem dX8_peek_22 : decode cX8_peek 22 = .ok (.if_icmp .ne 16, 3) := by decide +kernel
theorem dX8_peek_25 : decode cX8_peek 25 = .ok (.aload_n 0, 1) := by decide +kernel
theorem dX8_peek_26 : decode cX8_peek 26 = .ok (.dup, 1) := by decide +kernel
theorem dX8_peek_27 : decode cX8_peek 27 = .ok (.getfield 27, 3) := by decide +kernel
theorem dX8_peek_30 : decode cX8_peek 30 = .ok (.iconst 1, 1) := by decide +kernel
theorem dX8_peek_31 : decode cX8_peek 31 = .ok (.iadd, 1) := by decide +kernel
theorem dX8_peek_32 : decode cX8_peek 32 = .ok (.putfield 27, 3) := by decide +kernel
theorem dX8_peek_35 : decode cX8_peek 35 = .ok (.goto (-35), 3) := by decide +kernel
theorem dX8_peek_38 : decode cX8_peek 38 = .ok (.aload_n 0, 1) := by decide +kernel
theorem dX8_peek_39 : decode cX8_peek 39 = .ok (.getfield 27, 3) := by decide +kernel
theorem dX8_peek_42 : decode cX8_peek 42 = .ok (.aload_n 0, 1) := by decide +kernel
theorem dX8_peek_43 : decode cX8_peek 43 = .ok (.getfield 22, 3) := by decide +kernel
theorem dX8_peek_46 : decode cX8_peek 46 = .ok (.if_icmp .ge 15, 3) := by decide +kernel
theorem dX8_peek_49 : decode cX8_peek 49 = .ok (.aload_n 0, 1) := by decide +kernel
theorem dX8_peek_50 : decode cX8_peek 50 = .ok (.getfield 18, 3) := by decide +kernel
theorem dX8_peek_53 : decode cX8_peek 53 = .ok (.aload_n 0, 1) := by decide +kernel
theorem dX8_peek_54 : decode cX8_peek 54 = .ok (.getfield 27, 3) := by decide +kernel
theorem dX8_peek_57 : decode cX8_peek 57 = .ok (.baload, 1) := by decide +kernel
theorem dX8_peek_58 : decode cX8_peek 58 = .ok (.goto 4, 3) := by decide +kernel
theorem dX8_peek_61 : decode cX8_peek 61 = .ok (.iconst (-1), 1) := by decide +kernel
theorem dX8_peek_62 : decode cX8_peek 62 = .ok (.ireturn, 1) := by decide +kernel
theorem dX9_init_0 : decode cX9_init 0 = .ok (.aload_n 0, 1) := by decide +kernel
theorem dX9_init_1 : decode cX9_init 1 = .ok (.invokespecial 3, 3) := by decide +kernel
theorem dX9_init_4 : decode cX9_init 4 = .ok (.aload_n 0, 1) := by decide +kernel
theorem dX9_init_5 : decode cX9_init 5 = .ok (.bipush 8, 2) := by decide +kernel
theorem dX9_init_7 : decode cX9_init 7 = .ok (.newarray .int, 2) := by decide +kernel
theorem dX9_init_9 : decode cX9_init 9 = .ok (.putfield 9, 3) := by decide +kernel
theorem dX9_init_12 : decode cX9_init 12 = .ok (.aload_n 0, 1) := by decide +kernel
theorem dX9_init_13 : decode cX9_init 13 = .ok (.bipush 8, 2) := by decide +kernel
theorem dX9_init_15 : decode cX9_init 15 = .ok (.newarray .int, 2) := by decide +kernel
theorem dX9_init_17 : decode cX9_init 17 = .ok (.putfield 15, 3) := by decide +kernel
theorem dX9_init_20 : decode cX9_init 20 = .ok (.return_, 1) := by decide +kernel
theorem dX9_tellFor_0 : decode cX9_tellFor 0 = .ok (.iconst 0, 1) := by decide +kernel
theorem dX9_tellFor_1 : decode cX9_tellFor 1 = .ok (.istore_n 3, 1) := by decide +kernel
theorem dX9_tellFor_2 : decode cX9_tellFor 2 = .ok (.iload_n 3, 1) := by decide +kernel
theorem dX9_tellFor_3 : decode cX9_tellFor 3 = .ok (.aload_n 1, 1) := by decide +kernel
theorem dX9_tellFor_4 : decode cX9_tellFor 4 = .ok (.getfield 18, 3) := by decide +kernel
theorem dX9_tellFor_7 : decode cX9_tellFor 7 = .ok (.if_icmp .ge 18, 3) := by decide +kernel
theorem dX9_tellFor_10 : decode cX9_tellFor 10 = .ok (.aload_n 0, 1) := by decide +kernel
theorem dX9_tellFor_11 : decode cX9_tellFor 11 = .ok (.getfield 9, 3) := by decide +kernel
theorem dX9_tellFor_14 : decode cX9_tellFor 14 = .ok (.iload_n 3, 1) := by decide +kernel
theorem dX9_tellFor_15 : decode cX9_tellFor 15 = .ok (.iconst 1, 1) := by decide +kernel
theorem dX9_tellFor_16 : decode cX9_tellFor 16 = .ok (.iload_n 3, 1) := by decide +kernel
theorem dX9_tellFor_17 : decode cX9_tellFor 17 = .ok (.ishl, 1) := by decide +kernel
theorem dX9_tellFor_18 : decode cX9_tellFor 18 = .ok (.iastore, 1) := by decide +kernel
theorem dX9_tellFor_19 : decode cX9_tellFor 19 = .ok (.iinc 3 1, 3) := by decide +kernel
theorem dX9_tellFor_22 : decode cX9_tellFor 22 = .ok (.goto (-20), 3) := by decide +kernel
theorem dX9_tellFor_25 : decode cX9_tellFor 25 = .ok (.iconst 1, 1) := by decide +kernel
theorem dX9_tellFor_26 : decode cX9_tellFor 26 = .ok (.istore_n 3, 1) := by decide +kernel
theorem dX9_tellFor_27 : decode cX9_tellFor 27 = .ok (.iload_n 3, 1) := by decide +kernel
theorem dX9_tellFor_28 : decode cX9_tellFor 28 = .ok (.iload_n 2, 1) := by decide +kernel
theorem dX9_tellFor_29 : decode cX9_tellFor 29 = .ok (.if_icmp .gt 70, 3) := by decide +kernel
theorem dX9_tellFor_32 : decode cX9_tellFor 32 = .ok (.aload_n 0, 1) := by decide +kernel
theorem dX9_tellFor_33 : decode cX9_tellFor 33 = .ok (.getfield 15, 3) := by decide +kernel
theorem dX9_tellFor_36 : decode cX9_tellFor 36 = .ok (.astore 4, 2) := by decide +kernel
theorem dX9_tellFor_38 : decode cX9_tellFor 38 = .ok (.aload_n 0, 1) := by decide +kernel
theorem dX9_tellFor_39 : decode cX9_tellFor 39 = .ok (.aload_n 0, 1) := by decide +kernel
theorem dX9_tellFor_40 : decode cX9_tellFor 40 = .ok (.getfield 9, 3) := by decide +kernel
theorem dX9_tellFor_43 : decode cX9_tellFor 43 = .ok (.putfield 15, 3) := by decide +kernel
theorem dX9_tellFor_46 : decode cX9_tellFor 46 = .ok (.aload_n 0, 1) := by decide +kernel
theorem dX9_tellFor_47 : decode cX9_tellFor 47 = .ok (.aload 4, 2) := by decide +kernel
theorem dX9_tellFor_49 : decode cX9_tellFor 49 = .ok (.putfield 9, 3) := by decide +kernel
theorem dX9_tellFor_52 : decode cX9_tellFor 52 = .ok (.iconst 0, 1) := by decide +kernel
theorem dX9_tellFor_53 : decode cX9_tellFor 53 = .ok (.istore 5, 2) := by decide +kernel
theorem dX9_tellFor_55 : decode cX9_tellFor 55 = .ok (.iload 5, 2) := by decide +kernel
theorem dX9_tellFor_57 : decode cX9_tellFor 57 = .ok (.aload_n 1, 1) := by decide +kernel
theorem dX9_tellFor_58 : decode cX9_tellFor 58 = .ok (.getfield 18, 3) := by decide +kernel
theorem dX9_tellFor_61 : decode cX9_tellFor 61 = .ok (.if_icmp .ge 32, 3) := by decide +kernel
theorem dX9_tellFor_64 : decode cX9_tellFor 64 = .ok (.aload_n 0, 1) := by decide +kernel
theorem dX9_tellFor_65 : decode cX9_tellFor 65 = .ok (.getfield 9, 3) := by decide +kernel
theorem dX9_tellFor_68 : decode cX9_tellFor 68 = .ok (.iload 5, 2) := by decide +kernel
theorem dX9_tellFor_70 : decode cX9_tellFor 70 = .ok (.aload_n 0, 1) := by decide +kernel
theorem dX9_tellFor_71 : decode cX9_tellFor 71 = .ok (.getfield 15, 3) := by decide +kernel
theorem dX9_tellFor_74 : decode cX9_tellFor 74 = .ok (.iload 5, 2) := by decide +kernel
theorem dX9_tellFor_76 : decode cX9_tellFor 76 = .ok (.iaload, 1) := by decide +kernel
theorem dX9_tellFor_77 : decode cX9_tellFor 77 = .ok (.aload_n 0, 1) := by decide +kernel
theorem dX9_tellFor_78 : decode cX9_tellFor 78 = .ok (.aload_n 1, 1) := by decide +kernel
theorem dX9_tellFor_79 : decode cX9_tellFor 79 = .ok (.iload 5, 2) := by decide +kernel
theorem dX9_tellFor_81 : decode cX9_tellFor 81 = .ok (.iload_n 3, 1) := by decide +kernel
theorem dX9_tellFor_82 : decode cX9_tellFor 82 = .ok (.invokevirtual 24, 3) := by decide +kernel
theorem dX9_tellFor_85 : decode cX9_tellFor 85 = .ok (.ior, 1) := by decide +kernel
theorem dX9_tellFor_86 : decode cX9_tellFor 86 = .ok (.iastore, 1) := by decide +kernel
theorem dX9_tellFor_87 : decode cX9_tellFor 87 = .ok (.iinc 5 1, 3) := by decide +kernel
theorem dX9_tellFor_90 : decode cX9_tellFor 90 = .ok (.goto (-35), 3) := by decide +kernel
theorem dX9_tellFor_93 : decode cX9_tellFor 93 = .ok (.iinc 3 1, 3) := by decide +kernel
theorem dX9_tellFor_96 : decode cX9_tellFor 96 = .ok (.goto (-69), 3) := by decide +kernel
theorem dX9_tellFor_99 : decode cX9_tellFor 99 = .ok (.return_, 1) := by decide +kernel
theorem dX9_toldTo_0 : decode cX9_toldTo 0 = .ok (.iconst 0, 1) := by decide +kernel
theorem dX9_toldTo_1 : decode cX9_toldTo 1 = .ok (.istore 4, 2) := by decide +kernel
theorem dX9_toldTo_3 : decode cX9_toldTo 3 = .ok (.iconst 0, 1) := by decide +kernel
theorem dX9_toldTo_4 : decode cX9_toldTo 4 = .ok (.istore 5, 2) := by decide +kernel
theorem dX9_toldTo_6 : decode cX9_toldTo 6 = .ok (.iload 5, 2) := by decide +kernel
theorem dX9_toldTo_8 : decode cX9_toldTo 8 = .ok (.aload_n 1, 1) := by decide +kernel
theorem dX9_toldTo_9 : decode cX9_toldTo 9 = .ok (.getfield 18, 3) := by decide +kernel
theorem dX9_toldTo_12 : decode cX9_toldTo 12 = .ok (.if_icmp .ge 71, 3) := by decide +kernel
theorem dX9_toldTo_15 : decode cX9_toldTo 15 = .ok (.aload_n 1, 1) := by decide +kernel
theorem dX9_toldTo_16 : decode cX9_toldTo 16 = .ok (.iload_n 2, 1) := by decide +kernel
theorem dX9_toldTo_17 : decode cX9_toldTo 17 = .ok (.invokevirtual 28, 3) := by decide +kernel
theorem dX9_toldTo_20 : decode cX9_toldTo 20 = .ok (.ifCond .ne 63, 3) := by decide +kernel
theorem dX9_toldTo_23 : decode cX9_toldTo 23 = .ok (.aload_n 1, 1) := by decide +kernel
theorem dX9_toldTo_24 : decode cX9_toldTo 24 = .ok (.iload 5, 2) := by decide +kernel
theorem dX9_toldTo_26 : decode cX9_toldTo 26 = .ok (.iload_n 2, 1) := by decide +kernel
theorem dX9_toldTo_27 : decode cX9_toldTo 27 = .ok (.invokevirtual 32, 3) := by decide +kernel
theorem dX9_toldTo_30 : decode cX9_toldTo 30 = .ok (.ifCond .le 18, 3) := by decide +kernel
theorem dX9_toldTo_33 : decode cX9_toldTo 33 = .ok (.aload_n 1, 1) := by decide +kernel
theorem dX9_toldTo_34 : decode cX9_toldTo 34 = .ok (.iload_n 3, 1) := by decide +kernel
theorem dX9_toldTo_35 : decode cX9_toldTo 35 = .ok (.iload 5, 2) := by decide +kernel
theorem dX9_toldTo_37 : decode cX9_toldTo 37 = .ok (.iload_n 2, 1) := by decide +kernel
theorem dX9_toldTo_38 : decode cX9_toldTo 38 = .ok (.invokevirtual 36, 3) := by decide +kernel
theorem dX9_toldTo_41 : decode cX9_toldTo 41 = .ok (.ifCond .ne 7, 3) := by decide +kernel
theorem dX9_toldTo_44 : decode cX9_toldTo 44 = .ok (.iconst 1, 1) := by decide +kernel
theorem dX9_toldTo_45 : decode cX9_toldTo 45 = .ok (.goto 4, 3) := by decide +kernel
theorem dX9_toldTo_48 : decode cX9_toldTo 48 = .ok (.iconst 0, 1) := by decide +kernel
theorem dX9_toldTo_49 : decode cX9_toldTo 49 = .ok (.istore 6, 2) := by decide +kernel
theorem dX9_toldTo_51 : decode cX9_toldTo 51 = .ok (.iload 6, 2) := by decide +kernel
theorem dX9_toldTo_53 : decode cX9_toldTo 53 = .ok (.ifCond .eq 24, 3) := by decide +kernel
theorem dX9_toldTo_56 : decode cX9_toldTo 56 = .ok (.aload_n 1, 1) := by decide +kernel
theorem dX9_toldTo_57 : decode cX9_toldTo 57 = .ok (.iload 5, 2) := by decide +kernel
theorem dX9_toldTo_59 : decode cX9_toldTo 59 = .ok (.invokevirtual 28, 3) := by decide +kernel
theorem dX9_toldTo_62 : decode cX9_toldTo 62 = .ok (.ifCond .ne 15, 3) := by decide +kernel
theorem dX9_toldTo_65 : decode cX9_toldTo 65 = .ok (.iload 4, 2) := by decide +kernel
theorem dX9_toldTo_67 : decode cX9_toldTo 67 = .ok (.aload_n 0, 1) := by decide +kernel
theorem dX9_toldTo_68 : decode cX9_toldTo 68 = .ok (.getfield 15, 3) := by decide +kernel
theorem dX9_toldTo_71 : decode cX9_toldTo 71 = .ok (.iload 5, 2) := by decide +kernel
theorem dX9_toldTo_73 : decode cX9_toldTo 73 = .ok (.iaload, 1) := by decide +kernel
theorem dX9_toldTo_74 : decode cX9_toldTo 74 = .ok (.ior, 1) := by decide +kernel
theorem dX9_toldTo_75 : decode cX9_toldTo 75 = .ok (.istore 4, 2) := by decide +kernel
theorem dX9_toldTo_77 : decode cX9_toldTo 77 = .ok (.iinc 5 1, 3) := by decide +kernel
theorem dX9_toldTo_80 : decode cX9_toldTo 80 = .ok (.goto (-74), 3) := by decide +kernel
theorem dX9_toldTo_83 : decode cX9_toldTo 83 = .ok (.iload 4, 2) := by decide +kernel
theorem dX9_toldTo_85 : decode cX9_toldTo 85 = .ok (.ireturn, 1) := by decide +kernel
theorem dX9_knownTo_0 : decode cX9_knownTo 0 = .ok (.aload_n 0, 1) := by decide +kernel
theorem dX9_knownTo_1 : decode cX9_knownTo 1 = .ok (.getfield 9, 3) := by decide +kernel
theorem dX9_knownTo_4 : decode cX9_knownTo 4 = .ok (.iload_n 1, 1) := by decide +kernel
theorem dX9_knownTo_5 : decode cX9_knownTo 5 = .ok (.iaload, 1) := by decide +kernel
theorem dX9_knownTo_6 : decode cX9_knownTo 6 = .ok (.ireturn, 1) := by decide +kernel
theorem dJ6_bitCount_0f7a4_0 : decode cJ6_bitCount_0f7a4 0 = .ok (.iload_n 0, 1) := by decide +kernel
theorem dJ6_bitCount_0f7a4_1 : decode cJ6_bitCount_0f7a4 1 = .ok (.iload_n 0, 1) := by decide +kernel
theorem dJ6_bitCount_0f7a4_2 : decode cJ6_bitCount_0f7a4 2 = .ok (.iconst 1, 1) := by decide +kernel
theorem dJ6_bitCount_0f7a4_3 : decode cJ6_bitCount_0f7a4 3 = .ok (.iushr, 1) := by decide +kernel
theorem dJ6_bitCount_0f7a4_4 : decode cJ6_bitCount_0f7a4 4 = .ok (.ldc_w 265, 3) := by decide +kernel
theorem dJ6_bitCount_0f7a4_7 : decode cJ6_bitCount_0f7a4 7 = .ok (.iand, 1) := by decide +kernel
theorem dJ6_bitCount_0f7a4_8 : decode cJ6_bitCount_0f7a4 8 = .ok (.isub, 1) := by decide +kernel
theorem dJ6_bitCount_0f7a4_9 : decode cJ6_bitCount_0f7a4 9 = .ok (.istore_n 0, 1) := by decide +kernel
theorem dJ6_bitCount_0f7a4_10 : decode cJ6_bitCount_0f7a4 10 = .ok (.iload_n 0, 1) := by decide +kernel
theorem dJ6_bitCount_0f7a4_11 : decode cJ6_bitCount_0f7a4 11 = .ok (.ldc_w 266, 3) := by decide +kernel
theorem dJ6_bitCount_0f7a4_14 : decode cJ6_bitCount_0f7a4 14 = .ok (.iand, 1) := by decide +kernel
theorem dJ6_bitCount_0f7a4_15 : decode cJ6_bitCount_0f7a4 15 = .ok (.iload_n 0, 1) := by decide +kernel
theorem dJ6_bitCount_0f7a4_16 : decode cJ6_bitCount_0f7a4 16 = .ok (.iconst 2, 1) := by decide +kernel
theorem dJ6_bitCount_0f7a4_17 : decode cJ6_bitCount_0f7a4 17 = .ok (.iushr, 1) := by decide +kernel
theorem dJ6_bitCount_0f7a4_18 : decode cJ6_bitCount_0f7a4 18 = .ok (.ldc_w 266, 3) := by decide +kernel
theorem dJ6_bitCount_0f7a4_21 : decode cJ6_bitCount_0f7a4 21 = .ok (.iand, 1) := by decide +kernel
theorem dJ6_bitCount_0f7a4_22 : decode cJ6_bitCount_0f7a4 22 = .ok (.iadd, 1) := by decide +kernel
theorem dJ6_bitCount_0f7a4_23 : decode cJ6_bitCount_0f7a4 23 = .ok (.istore_n 0, 1) := by decide +kernel
theorem dJ6_bitCount_0f7a4_24 : decode cJ6_bitCount_0f7a4 24 = .ok (.iload_n 0, 1) := by decide +kernel
theorem dJ6_bitCount_0f7a4_25 : decode cJ6_bitCount_0f7a4 25 = .ok (.iload_n 0, 1) := by decide +kernel
theorem dJ6_bitCount_0f7a4_26 : decode cJ6_bitCount_0f7a4 26 = .ok (.iconst 4, 1) := by decide +kernel
theorem dJ6_bitCount_0f7a4_27 : decode cJ6_bitCount_0f7a4 27 = .ok (.iushr, 1) := by decide +kernel
theorem dJ6_bitCount_0f7a4_28 : decode cJ6_bitCount_0f7a4 28 = .ok (.iadd, 1) := by decide +kernel
theorem dJ6_bitCount_0f7a4_29 : decode cJ6_bitCount_0f7a4 29 = .ok (.ldc_w 267, 3) := by decide +kernel
theorem dJ6_bitCount_0f7a4_32 : decode cJ6_bitCount_0f7a4 32 = .ok (.iand, 1) := by decide +kernel
theorem dJ6_bitCount_0f7a4_33 : decode cJ6_bitCount_0f7a4 33 = .ok (.istore_n 0, 1) := by decide +kernel
theorem dJ6_bitCount_0f7a4_34 : decode cJ6_bitCount_0f7a4 34 = .ok (.iload_n 0, 1) := by decide +kernel
theorem dJ6_bitCount_0f7a4_35 : decode cJ6_bitCount_0f7a4 35 = .ok (.iload_n 0, 1) := by decide +kernel
theorem dJ6_bitCount_0f7a4_36 : decode cJ6_bitCount_0f7a4 36 = .ok (.bipush 8, 2) := by decide +kernel
theorem dJ6_bitCount_0f7a4_38 : decode cJ6_bitCount_0f7a4 38 = .ok (.iushr, 1) := by decide +kernel
theorem dJ6_bitCount_0f7a4_39 : decode cJ6_bitCount_0f7a4 39 = .ok (.iadd, 1) := by decide +kernel
theorem dJ6_bitCount_0f7a4_40 : decode cJ6_bitCount_0f7a4 40 = .ok (.istore_n 0, 1) := by decide +kernel
theorem dJ6_bitCount_0f7a4_41 : decode cJ6_bitCount_0f7a4 41 = .ok (.iload_n 0, 1) := by decide +kernel
theorem dJ6_bitCount_0f7a4_42 : decode cJ6_bitCount_0f7a4 42 = .ok (.iload_n 0, 1) := by decide +kernel
theorem dJ6_bitCount_0f7a4_43 : decode cJ6_bitCount_0f7a4 43 = .ok (.bipush 16, 2) := by decide +kernel
theorem dJ6_bitCount_0f7a4_45 : decode cJ6_bitCount_0f7a4 45 = .ok (.iushr, 1) := by decide +kernel
theorem dJ6_bitCount_0f7a4_46 : decode cJ6_bitCount_0f7a4 46 = .ok (.iadd, 1) := by decide +kernel
theorem dJ6_bitCount_0f7a4_47 : decode cJ6_bitCount_0f7a4 47 = .ok (.istore_n 0, 1) := by decide +kernel
theorem dJ6_bitCount_0f7a4_48 : decode cJ6_bitCount_0f7a4 48 = .ok (.iload_n 0, 1) := by decide +kernel
theorem dJ6_bitCount_0f7a4_49 : decode cJ6_bitCount_0f7a4 49 = .ok (.bipush 63, 2) := by decide +kernel
theorem dJ6_bitCount_0f7a4_51 : decode cJ6_bitCount_0f7a4 51 = .ok (.iand, 1) := by decide +kernel
theorem dJ6_bitCount_0f7a4_52 : decode cJ6_bitCount_0f7a4 52 = .ok (.ireturn, 1) := by decide +kernel
theorem dJ7_fill_53178_0 : decode cJ7_fill_53178 0 = .ok (.iconst 0, 1) := by decide +kernel
theorem dJ7_fill_53178_1 : decode cJ7_fill_53178 1 = .ok (.istore_n 2, 1) := by decide +kernel
theorem dJ7_fill_53178_2 : decode cJ7_fill_53178 2 = .ok (.aload_n 0, 1) := by decide +kernel
theorem dJ7_fill_53178_3 : decode cJ7_fill_53178 3 = .ok (.arraylength, 1) := by decide +kernel
theorem dJ7_fill_53178_4 : decode cJ7_fill_53178 4 = .ok (.istore_n 3, 1) := by decide +kernel
theorem dJ7_fill_53178_5 : decode cJ7_fill_53178 5 = .ok (.iload_n 2, 1) := by decide +kernel
theorem dJ7_fill_53178_6 : decode cJ7_fill_53178 6 = .ok (.iload_n 3, 1) := by decide +kernel
theorem dJ7_fill_53178_7 : decode cJ7_fill_53178 7 = .ok (.if_icmp .ge 13, 3) := by decide +kernel
theorem dJ7_fill_53178_10 : decode cJ7_fill_53178 10 = .ok (.aload_n 0, 1) := by decide +kernel
theorem dJ7_fill_53178_11 : decode cJ7_fill_53178 11 = .ok (.iload_n 2, 1) := by decide +kernel
theorem dJ7_fill_53178_12 : decode cJ7_fill_53178 12 = .ok (.iload_n 1, 1) := by decide +kernel
theorem dJ7_fill_53178_13 : decode cJ7_fill_53178 13 = .ok (.iastore, 1) := by decide +kernel
theorem dJ7_fill_53178_14 : decode cJ7_fill_53178 14 = .ok (.iinc 2 1, 3) := by decide +kernel
theorem dJ7_fill_53178_17 : decode cJ7_fill_53178 17 = .ok (.goto (-12), 3) := by decide +kernel
theorem dJ7_fill_53178_20 : decode cJ7_fill_53178 20 = .ok (.return_, 1) := by decide +kernel
end
section
theorem dX10_init_0 : decode cX10_init 0 = .ok (.aload_n 0, 1) := by decide +kernel
theorem dX10_init_1 : decode cX10_init 1 = .ok (.invokespecial 1, 3) := by decide +kernel
theorem dX10_init_4 : decode cX10_init 4 = .ok (.aload_n 0, 1) := by decide +kernel
theorem dX10_init_5 : decode cX10_init 5 = .ok (.new 7, 3) := by decide +kernel
theorem dX10_init_8 : decode cX10_init 8 = .ok (.dup, 1) := by decide +kernel
theorem dX10_init_9 : decode cX10_init 9 = .ok (.invokespecial 9, 3) := by decide +kernel
theorem dX10_init_12 : decode cX10_init 12 = .ok (.putfield 10, 3) := by decide +kernel
theorem dX10_init_15 : decode cX10_init 15 = .ok (.aload_n 0, 1) := by decide +kernel
theorem dX10_init_16 : decode cX10_init 16 = .ok (.iconst 2, 1) := by decide +kernel
theorem dX10_init_17 : decode cX10_init 17 = .ok (.anewarray 7, 3) := by decide +kernel
theorem dX10_init_20 : decode cX10_init 20 = .ok (.putfield 16, 3) := by decide +kernel
theorem dX10_init_23 : decode cX10_init 23 = .ok (.aload_n 0, 1) := by decide +kernel
theorem dX10_init_24 : decode cX10_init 24 = .ok (.new 20, 3) := by decide +kernel
theorem dX10_init_27 : decode cX10_init 27 = .ok (.dup, 1) := by decide +kernel
theorem dX10_init_28 : decode cX10_init 28 = .ok (.invokespecial 22, 3) := by decide +kernel
theorem dX10_init_31 : decode cX10_init 31 = .ok (.putfield 23, 3) := by decide +kernel
theorem dX10_init_34 : decode cX10_init 34 = .ok (.aload_n 0, 1) := by decide +kernel
theorem dX10_init_35 : decode cX10_init 35 = .ok (.iconst 4, 1) := by decide +kernel
theorem dX10_init_36 : decode cX10_init 36 = .ok (.anewarray 27, 3) := by decide +kernel
theorem dX10_init_39 : decode cX10_init 39 = .ok (.dup, 1) := by decide +kernel
theorem dX10_init_40 : decode cX10_init 40 = .ok (.iconst 0, 1) := by decide +kernel
theorem dX10_init_41 : decode cX10_init 41 = .ok (.new 27, 3) := by decide +kernel
theorem dX10_init_44 : decode cX10_init 44 = .ok (.dup, 1) := by decide +kernel
theorem dX10_init_45 : decode cX10_init 45 = .ok (.invokespecial 29, 3) := by decide +kernel
theorem dX10_init_48 : decode cX10_init 48 = .ok (.aastore, 1) := by decide +kernel
theorem dX10_init_49 : decode cX10_init 49 = .ok (.dup, 1) := by decide +kernel
theorem dX10_init_50 : decode cX10_init 50 = .ok (.iconst 1, 1) := by decide +kernel
theorem dX10_init_51 : decode cX10_init 51 = .ok (.new 27, 3) := by decide +kernel
theorem dX10_init_54 : decode cX10_init 54 = .ok (.dup, 1) := by decide +kernel
theorem dX10_init_55 : decode cX10_init 55 = .ok (.invokespecial 29, 3) := by decide +kernel
theorem dX10_init_58 : decode cX10_init 58 = .ok (.aastore, 1) := by decide +kernel
theorem dX10_init_59 : decode cX10_init 59 = .ok (.dup, 1) := by decide +kernel
theorem dX10_init_60 : decode cX10_init 60 = .ok (.iconst 2, 1) := by decide +kernel
theorem dX10_init_61 : decode cX10_init 61 = .ok (.new 27, 3) := by decide +kernel
theorem dX10_init_64 : decode cX10_init 64 = .ok (.dup, 1) := by decide +kernel
theorem dX10_init_65 : decode cX10_init 65 = .ok (.invokespecial 29, 3) := by decide +kernel
theorem dX10_init_68 : decode cX10_init 68 = .ok (.aastore, 1) := by decide +kernel
theorem dX10_init_69 : decode cX10_init 69 = .ok (.dup, 1) := by decide +kernel
theorem dX10_init_70 : decode cX10_init 70 = .ok (.iconst 3, 1) := by decide +kernel
theorem dX10_init_71 : decode cX10_init 71 = .ok (.new 27, 3) := by decide +kernel
theorem dX10_init_74 : decode cX10_init 74 = .ok (.dup, 1) := by decide +kernel
theorem dX10_init_75 : decode cX10_init 75 = .ok (.invokespecial 29, 3) := by decide +kernel
theorem dX10_init_78 : decode cX10_init 78 = .ok (.aastore, 1) := by decide +kernel
theorem dX10_init_79 : decode cX10_init 79 = .ok (.putfield 30, 3) := by decide +kernel
theorem dX10_init_82 : decode cX10_init 82 = .ok (.aload_n 0, 1) := by decide +kernel
theorem dX10_init_83 : decode cX10_init 83 = .ok (.new 34, 3) := by decide +kernel
theorem dX10_init_86 : decode cX10_init 86 = .ok (.dup, 1) := by decide +kernel
theorem dX10_init_87 : decode cX10_init 87 = .ok (.invokespecial 36, 3) := by decide +kernel
theorem dX10_init_90 : decode cX10_init 90 = .ok (.putfield 37, 3) := by decide +kernel
theorem dX10_init_93 : decode cX10_init 93 = .ok (.aload_n 0, 1) := by decide +kernel
theorem dX10_init_94 : decode cX10_init 94 = .ok (.new 41, 3) := by decide +kernel
theorem dX10_init_97 : decode cX10_init 97 = .ok (.dup, 1) := by decide +kernel
theorem dX10_init_98 : decode cX10_init 98 = .ok (.invokespecial 43, 3) := by decide +kernel
theorem dX10_init_101 : decode cX10_init 101 = .ok (.putfield 44, 3) := by decide +kernel
theorem dX10_init_104 : decode cX10_init 104 = .ok (.aload_n 0, 1) := by decide +kernel
theorem dX10_init_105 : decode cX10_init 105 = .ok (.new 48, 3) := by decide +kernel
theorem dX10_init_108 : decode cX10_init 108 = .ok (.dup, 1) := by decide +kernel
theorem dX10_init_109 : decode cX10_init 109 = .ok (.invokespecial 50, 3) := by decide +kernel
theorem dX10_init_112 : decode cX10_init 112 = .ok (.putfield 51, 3) := by decide +kernel
theorem dX10_init_115 : decode cX10_init 115 = .ok (.aload_n 0, 1) := by decide +kernel
theorem dX10_init_116 : decode cX10_init 116 = .ok (.new 55, 3) := by decide +kernel
theorem dX10_init_119 : decode cX10_init 119 = .ok (.dup, 1) := by decide +kernel
theorem dX10_init_120 : decode cX10_init 120 = .ok (.invokespecial 57, 3) := by decide +kernel
theorem dX10_init_123 : decode cX10_init 123 = .ok (.putfield 58, 3) := by decide +kernel
theorem dX10_init_126 : decode cX10_init 126 = .ok (.return_, 1) := by decide +kernel
theorem dX10_room_0 : decode cX10_room 0 = .ok (.iload_n 1, 1) := by decide +kernel
theorem dX10_room_1 : decode cX10_room 1 = .ok (.ifCond .lt 8, 3) := by decide +kernel
theorem dX10_room_4 : decode cX10_room 4 = .ok (.iload_n 1, 1) := by decide +kernel
theorem dX10_room_5 : decode cX10_room 5 = .ok (.iconst 5, 1) := by decide +kernel
theorem dX10_room_6 : decode cX10_room 6 = .ok (.if_icmp .le 5, 3) := by decide +kernel
theorem dX10_room_9 : decode cX10_room 9 = .ok (.iconst (-1), 1) := by decide +kernel
theorem dX10_room_10 : decode cX10_room 10 = .ok (.ireturn, 1) := by decide +kernel
theorem dX10_room_11 : decode cX10_room 11 = .ok (.aload_n 0, 1) := by decide +kernel
theorem dX10_room_12 : decode cX10_room 12 = .ok (.getfield 10, 3) := by decide +kernel
theorem dX10_room_15 : decode cX10_room 15 = .ok (.getfield 62, 3) := by decide +kernel
theorem dX10_room_18 : decode cX10_room 18 = .ok (.getfield 66, 3) := by decide +kernel
theorem dX10_room_21 : decode cX10_room 21 = .ok (.bipush 8, 2) := by decide +kernel
theorem dX10_room_23 : decode cX10_room 23 = .ok (.if_icmp .ne 8, 3) := by decide +kernel
theorem dX10_room_26 : decode cX10_room 26 = .ok (.bipush (-3), 2) := by decide +kernel
theorem dX10_room_28 : decode cX10_room 28 = .ok (.goto 14, 3) := by decide +kernel
theorem dX10_room_31 : decode cX10_room 31 = .ok (.aload_n 0, 1) := by decide +kernel
theorem dX10_room_32 : decode cX10_room 32 = .ok (.getfield 10, 3) := by decide +kernel
theorem dX10_room_35 : decode cX10_room 35 = .ok (.getfield 62, 3) := by decide +kernel
theorem dX10_room_38 : decode cX10_room 38 = .ok (.iload_n 1, 1) := by decide +kernel
theorem dX10_room_39 : decode cX10_room 39 = .ok (.invokevirtual 72, 3) := by decide +kernel
theorem dX10_room_42 : decode cX10_room 42 = .ok (.ireturn, 1) := by decide +kernel
theorem dX10_set_0 : decode cX10_set 0 = .ok (.aload_n 0, 1) := by decide +kernel
theorem dX10_set_1 : decode cX10_set 1 = .ok (.getfield 10, 3) := by decide +kernel
theorem dX10_set_4 : decode cX10_set 4 = .ok (.getfield 62, 3) := by decide +kernel
theorem dX10_set_7 : decode cX10_set 7 = .ok (.iload_n 1, 1) := by decide +kernel
theorem dX10_set_8 : decode cX10_set 8 = .ok (.invokevirtual 76, 3) := by decide +kernel
theorem dX10_set_11 : decode cX10_set 11 = .ok (.ifCond .eq 26, 3) := by decide +kernel
theorem dX10_set_14 : decode cX10_set 14 = .ok (.iload_n 2, 1) := by decide +kernel
theorem dX10_set_15 : decode cX10_set 15 = .ok (.ifCond .lt 22, 3) := by decide +kernel
theorem dX10_set_18 : decode cX10_set 18 = .ok (.iload_n 2, 1) := by decide +kernel
theorem dX10_set_19 : decode cX10_set 19 = .ok (.bipush 6, 2) := by decide +kernel
theorem dX10_set_21 : decode cX10_set 21 = .ok (.if_icmp .ge 16, 3) := by decide +kernel
theorem dX10_set_24 : decode cX10_set 24 = .ok (.iload_n 3, 1) := by decide +kernel
theorem dX10_set_25 : decode cX10_set 25 = .ok (.ifCond .lt 12, 3) := by decide +kernel
theorem dX10_set_28 : decode cX10_set 28 = .ok (.iload_n 3, 1) := by decide +kernel
theorem dX10_set_29 : decode cX10_set 29 = .ok (.getstatic 80, 3) := by decide +kernel
theorem dX10_set_32 : decode cX10_set 32 = .ok (.iload_n 2, 1) := by decide +kernel
theorem dX10_set_33 : decode cX10_set 33 = .ok (.iaload, 1) := by decide +kernel
theorem dX10_set_34 : decode cX10_set 34 = .ok (.if_icmp .le 5, 3) := by decide +kernel
theorem dX10_set_37 : decode cX10_set 37 = .ok (.iconst (-1), 1) := by decide +kernel
theorem dX10_set_38 : decode cX10_set 38 = .ok (.ireturn, 1) := by decide +kernel
theorem dX10_set_39 : decode cX10_set 39 = .ok (.aload_n 0, 1) := by decide +kernel
theorem dX10_set_40 : decode cX10_set 40 = .ok (.getfield 10, 3) := by decide +kernel
theorem dX10_set_43 : decode cX10_set 43 = .ok (.getfield 62, 3) := by decide +kernel
theorem dX10_set_46 : decode cX10_set 46 = .ok (.iload_n 1, 1) := by decide +kernel
theorem dX10_set_47 : decode cX10_set 47 = .ok (.iload_n 2, 1) := by decide +kernel
theorem dX10_set_48 : decode cX10_set 48 = .ok (.iload_n 3, 1) := by decide +kernel
theorem dX10_set_49 : decode cX10_set 49 = .ok (.invokevirtual 84, 3) := by decide +kernel
theorem dX10_set_52 : decode cX10_set 52 = .ok (.ireturn, 1) := by decide +kernel
theorem dX10_wire_0 : decode cX10_wire 0 = .ok (.aload_n 0, 1) := by decide +kernel
theorem dX10_wire_1 : decode cX10_wire 1 = .ok (.getfield 10, 3) := by decide +kernel
theorem dX10_wire_4 : decode cX10_wire 4 = .ok (.getfield 62, 3) := by decide +kernel
theorem dX10_wire_7 : decode cX10_wire 7 = .ok (.iload_n 1, 1) := by decide +kernel
theorem dX10_wire_8 : decode cX10_wire 8 = .ok (.iload_n 2, 1) := by decide +kernel
theorem dX10_wire_9 : decode cX10_wire 9 = .ok (.invokevirtual 88, 3) := by decide +kernel
theorem dX10_wire_12 : decode cX10_wire 12 = .ok (.ifCond .eq 14, 3) := by decide +kernel
theorem dX10_wire_15 : decode cX10_wire 15 = .ok (.iload_n 3, 1) := by decide +kernel
theorem dX10_wire_16 : decode cX10_wire 16 = .ok (.ifCond .lt 10, 3) := by decide +kernel
theorem dX10_wire_19 : decode cX10_wire 19 = .ok (.iload_n 3, 1) := by decide +kernel
theorem dX10_wire_20 : decode cX10_wire 20 = .ok (.sipush 400, 3) := by decide +kernel
theorem dX10_wire_23 : decode cX10_wire 23 = .ok (.if_icmp .le 5, 3) := by decide +kernel
theorem dX10_wire_26 : decode cX10_wire 26 = .ok (.iconst (-1), 1) := by decide +kernel
theorem dX10_wire_27 : decode cX10_wire 27 = .ok (.ireturn, 1) := by decide +kernel
theorem dX10_wire_28 : decode cX10_wire 28 = .ok (.aload_n 0, 1) := by decide +kernel
theorem dX10_wire_29 : decode cX10_wire 29 = .ok (.getfield 10, 3) := by decide +kernel
theorem dX10_wire_32 : decode cX10_wire 32 = .ok (.getfield 62, 3) := by decide +kernel
theorem dX10_wire_35 : decode cX10_wire 35 = .ok (.iload_n 1, 1) := by decide +kernel
theorem dX10_wire_36 : decode cX10_wire 36 = .ok (.iload_n 2, 1) := by decide +kernel
theorem dX10_wire_37 : decode cX10_wire 37 = .ok (.iload_n 3, 1) := by decide +kernel
theorem dX10_wire_38 : decode cX10_wire 38 = .ok (.invokevirtual 92, 3) := by decide +kernel
theorem dX10_wire_41 : decode cX10_wire 41 = .ok (.ireturn, 1) := by decide +kernel
theorem dX10_wires_0 : decode cX10_wires 0 = .ok (.aload_n 0, 1) := by decide +kernel
theorem dX10_wires_1 : decode cX10_wires 1 = .ok (.getfield 10, 3) := by decide +kernel
theorem dX10_wires_4 : decode cX10_wires 4 = .ok (.getfield 62, 3) := by decide +kernel
theorem dX10_wires_7 : decode cX10_wires 7 = .ok (.iload_n 1, 1) := by decide +kernel
theorem dX10_wires_8 : decode cX10_wires 8 = .ok (.invokevirtual 76, 3) := by decide +kernel
theorem dX10_wires_11 : decode cX10_wires 11 = .ok (.ifCond .eq 17, 3) := by decide +kernel
theorem dX10_wires_14 : decode cX10_wires 14 = .ok (.iload_n 2, 1) := by decide +kernel
theorem dX10_wires_15 : decode cX10_wires 15 = .ok (.invokestatic 95, 3) := by decide +kernel
theorem dX10_wires_18 : decode cX10_wires 18 = .ok (.ifCond .eq 10, 3) := by decide +kernel
theorem dX10_wires_21 : decode cX10_wires 21 = .ok (.iload_n 3, 1) := by decide +kernel
theorem dX10_wires_22 : decode cX10_wires 22 = .ok (.invokestatic 98, 3) := by decide +kernel
theorem dX10_wires_25 : decode cX10_wires 25 = .ok (.ifCond .ne 5, 3) := by decide +kernel
theorem dX10_wires_28 : decode cX10_wires 28 = .ok (.iconst (-1), 1) := by decide +kernel
theorem dX10_wires_29 : decode cX10_wires 29 = .ok (.ireturn, 1) := by decide +kernel
theorem dX10_wires_30 : decode cX10_wires 30 = .ok (.aload_n 0, 1) := by decide +kernel
theorem dX10_wires_31 : decode cX10_wires 31 = .ok (.getfield 30, 3) := by decide +kernel
theorem dX10_wires_34 : decode cX10_wires 34 = .ok (.iload_n 2, 1) := by decide +kernel
theorem dX10_wires_35 : decode cX10_wires 35 = .ok (.aaload, 1) := by decide +kernel
theorem dX10_wires_36 : decode cX10_wires 36 = .ok (.astore 5, 2) := by decide +kernel
theorem dX10_wires_38 : decode cX10_wires 38 = .ok (.aload 5, 2) := by decide +kernel
theorem dX10_wires_40 : decode cX10_wires 40 = .ok (.iload_n 3, 1) := by decide +kernel
theorem dX10_wires_41 : decode cX10_wires 41 = .ok (.invokevirtual 101, 3) := by decide +kernel
theorem dX10_wires_44 : decode cX10_wires 44 = .ok (.istore 6, 2) := by decide +kernel
theorem dX10_wires_46 : decode cX10_wires 46 = .ok (.iload 6, 2) := by decide +kernel
theorem dX10_wires_48 : decode cX10_wires 48 = .ok (.ifCond .eq 6, 3) := by decide +kernel
theorem dX10_wires_51 : decode cX10_wires 51 = .ok (.iload 6, 2) := by decide +kernel
theorem dX10_wires_53 : decode cX10_wires 53 = .ok (.ireturn, 1) := by decide +kernel
theorem dX10_wires_54 : decode cX10_wires 54 = .ok (.aload 5, 2) := by decide +kernel
theorem dX10_wires_56 : decode cX10_wires 56 = .ok (.iload 4, 2) := by decide +kernel
theorem dX10_wires_58 : decode cX10_wires 58 = .ok (.aload_n 0, 1) := by decide +kernel
theorem dX10_wires_59 : decode cX10_wires 59 = .ok (.getfield 10, 3) := by decide +kernel
theorem dX10_wires_62 : decode cX10_wires 62 = .ok (.getfield 62, 3) := by decide +kernel
theorem dX10_wires_65 : decode cX10_wires 65 = .ok (.getfield 66, 3) := by decide +kernel
theorem dX10_wires_68 : decode cX10_wires 68 = .ok (.invokevirtual 104, 3) := by decide +kernel
theorem dX10_wires_71 : decode cX10_wires 71 = .ok (.ifCond .ne 6, 3) := by decide +kernel
theorem dX10_wires_74 : decode cX10_wires 74 = .ok (.bipush (-13), 2) := by decide +kernel
theorem dX10_wires_76 : decode cX10_wires 76 = .ok (.ireturn, 1) := by decide +kernel
theorem dX10_wires_77 : decode cX10_wires 77 = .ok (.aload_n 0, 1) := by decide +kernel
theorem dX10_wires_78 : decode cX10_wires 78 = .ok (.getfield 10, 3) := by decide +kernel
theorem dX10_wires_81 : decode cX10_wires 81 = .ok (.getfield 62, 3) := by decide +kernel
theorem dX10_wires_84 : decode cX10_wires 84 = .ok (.iload_n 1, 1) := by decide +kernel
theorem dX10_wires_85 : decode cX10_wires 85 = .ok (.aload 5, 2) := by decide +kernel
theorem dX10_wires_87 : decode cX10_wires 87 = .ok (.iload 4, 2) := by decide +kernel
theorem dX10_wires_89 : decode cX10_wires 89 = .ok (.invokevirtual 107, 3) := by decide +kernel
theorem dX10_wires_92 : decode cX10_wires 92 = .ok (.ifCond .eq 21, 3) := by decide +kernel
theorem dX10_wires_95 : decode cX10_wires 95 = .ok (.aload_n 0, 1) := by decide +kernel
theorem dX10_wires_96 : decode cX10_wires 96 = .ok (.getfield 10, 3) := by decide +kernel
theorem dX10_wires_99 : decode cX10_wires 99 = .ok (.getfield 62, 3) := by decide +kernel
theorem dX10_wires_102 : decode cX10_wires 102 = .ok (.iload_n 1, 1) := by decide +kernel
theorem dX10_wires_103 : decode cX10_wires 103 = .ok (.aload 5, 2) := by decide +kernel
theorem dX10_wires_105 : decode cX10_wires 105 = .ok (.iload 4, 2) := by decide +kernel
theorem dX10_wires_107 : decode cX10_wires 107 = .ok (.invokevirtual 111, 3) := by decide +kernel
theorem dX10_wires_110 : decode cX10_wires 110 = .ok (.goto 5, 3) := by decide +kernel
theorem dX10_wires_113 : decode cX10_wires 113 = .ok (.bipush (-2), 2) := by decide +kernel
theorem dX10_wires_115 : decode cX10_wires 115 = .ok (.ireturn, 1) := by decide +kernel
theorem dX10_pace_0 : decode cX10_pace 0 = .ok (.iload_n 1, 1) := by decide +kernel
theorem dX10_pace_1 : decode cX10_pace 1 = .ok (.iconst 1, 1) := by decide +kernel
theorem dX10_pace_2 : decode cX10_pace 2 = .ok (.if_icmp .lt 10, 3) := by decide +kernel
theorem dX10_pace_5 : decode cX10_pace 5 = .ok (.iload_n 1, 1) := by decide +kernel
theorem dX10_pace_6 : decode cX10_pace 6 = .ok (.sipush 2000, 3) := by decide +kernel
theorem dX10_pace_9 : decode cX10_pace 9 = .ok (.if_icmp .le 5, 3) := by decide +kernel
theorem dX10_pace_12 : decode cX10_pace 12 = .ok (.iconst (-1), 1) := by decide +kernel
theorem dX10_pace_13 : decode cX10_pace 13 = .ok (.ireturn, 1) := by decide +kernel
theorem dX10_pace_14 : decode cX10_pace 14 = .ok (.aload_n 0, 1) := by decide +kernel
theorem dX10_pace_15 : decode cX10_pace 15 = .ok (.getfield 10, 3) := by decide +kernel
theorem dX10_pace_18 : decode cX10_pace 18 = .ok (.getfield 62, 3) := by decide +kernel
theorem dX10_pace_21 : decode cX10_pace 21 = .ok (.getfield 115, 3) := by decide +kernel
theorem dX10_pace_24 : decode cX10_pace 24 = .ok (.istore_n 2, 1) := by decide +kernel
theorem dX10_pace_25 : decode cX10_pace 25 = .ok (.aload_n 0, 1) := by decide +kernel
theorem dX10_pace_26 : decode cX10_pace 26 = .ok (.getfield 10, 3) := by decide +kernel
theorem dX10_pace_29 : decode cX10_pace 29 = .ok (.getfield 62, 3) := by decide +kernel
theorem dX10_pace_32 : decode cX10_pace 32 = .ok (.iload_n 1, 1) := by decide +kernel
theorem dX10_pace_33 : decode cX10_pace 33 = .ok (.putfield 115, 3) := by decide +kernel
theorem dX10_pace_36 : decode cX10_pace 36 = .ok (.iload_n 2, 1) := by decide +kernel
theorem dX10_pace_37 : decode cX10_pace 37 = .ok (.ireturn, 1) := by decide +kernel
theorem dX10_time_0 : decode cX10_time 0 = .ok (.aload_n 0, 1) := by decide +kernel
theorem dX10_time_1 : decode cX10_time 1 = .ok (.getfield 10, 3) := by decide +kernel
theorem dX10_time_4 : decode cX10_time 4 = .ok (.getfield 62, 3) := by decide +kernel
theorem dX10_time_7 : decode cX10_time 7 = .ok (.iload_n 1, 1) := by decide +kernel
theorem dX10_time_8 : decode cX10_time 8 = .ok (.invokevirtual 76, 3) := by decide +kernel
theorem dX10_time_11 : decode cX10_time 11 = .ok (.ifCond .eq 13, 3) := by decide +kernel
theorem dX10_time_14 : decode cX10_time 14 = .ok (.iload_n 2, 1) := by decide +kernel
theorem dX10_time_15 : decode cX10_time 15 = .ok (.ifCond .lt 9, 3) := by decide +kernel
theorem dX10_time_18 : decode cX10_time 18 = .ok (.iload_n 2, 1) := by decide +kernel
theorem dX10_time_19 : decode cX10_time 19 = .ok (.bipush 40, 2) := by decide +kernel
theorem dX10_time_21 : decode cX10_time 21 = .ok (.if_icmp .le 6, 3) := by decide +kernel
theorem dX10_time_24 : decode cX10_time 24 = .ok (.ldc 118, 2) := by decide +kernel
theorem dX10_time_26 : decode cX10_time 26 = .ok (.ireturn, 1) := by decide +kernel
theorem dX10_time_27 : decode cX10_time 27 = .ok (.aload_n 0, 1) := by decide +kernel
theorem dX10_time_28 : decode cX10_time 28 = .ok (.getfield 10, 3) := by decide +kernel
theorem dX10_time_31 : decode cX10_time 31 = .ok (.getfield 62, 3) := by decide +kernel
theorem dX10_time_34 : decode cX10_time 34 = .ok (.iload_n 1, 1) := by decide +kernel
theorem dX10_time_35 : decode cX10_time 35 = .ok (.invokevirtual 119, 3) := by decide +kernel
theorem dX10_time_38 : decode cX10_time 38 = .ok (.ifCond .ne 6, 3) := by decide +kernel
theorem dX10_time_41 : decode cX10_time 41 = .ok (.ldc 122, 2) := by decide +kernel
theorem dX10_time_43 : decode cX10_time 43 = .ok (.ireturn, 1) := by decide +kernel
theorem dX10_time_44 : decode cX10_time 44 = .ok (.aload_n 0, 1) := by decide +kernel
theorem dX10_time_45 : decode cX10_time 45 = .ok (.getfield 37, 3) := by decide +kernel
theorem dX10_time_48 : decode cX10_time 48 = .ok (.aload_n 0, 1) := by decide +kernel
theorem dX10_time_49 : decode cX10_time 49 = .ok (.getfield 10, 3) := by decide +kernel
theorem dX10_time_52 : decode cX10_time 52 = .ok (.getfield 62, 3) := by decide +kernel
theorem dX10_time_55 : decode cX10_time 55 = .ok (.invokevirtual 123, 3) := by decide +kernel
theorem dX10_time_58 : decode cX10_time 58 = .ok (.aload_n 0, 1) := by decide +kernel
theorem dX10_time_59 : decode cX10_time 59 = .ok (.getfield 37, 3) := by decide +kernel
theorem dX10_time_62 : decode cX10_time 62 = .ok (.aload_n 0, 1) := by decide +kernel
theorem dX10_time_63 : decode cX10_time 63 = .ok (.getfield 10, 3) := by decide +kernel
theorem dX10_time_66 : decode cX10_time 66 = .ok (.getfield 62, 3) := by decide +kernel
theorem dX10_time_69 : decode cX10_time 69 = .ok (.iload_n 2, 1) := by decide +kernel
theorem dX10_time_70 : decode cX10_time 70 = .ok (.invokevirtual 127, 3) := by decide +kernel
theorem dX10_time_73 : decode cX10_time 73 = .ok (.aload_n 0, 1) := by decide +kernel
theorem dX10_time_74 : decode cX10_time 74 = .ok (.getfield 37, 3) := by decide +kernel
theorem dX10_time_77 : decode cX10_time 77 = .ok (.iload_n 1, 1) := by decide +kernel
theorem dX10_time_78 : decode cX10_time 78 = .ok (.invokevirtual 131, 3) := by decide +kernel
theorem dX10_time_81 : decode cX10_time 81 = .ok (.ireturn, 1) := by decide +kernel
theorem dX10_paceAt_0 : decode cX10_paceAt 0 = .ok (.iload_n 1, 1) := by decide +kernel
theorem dX10_paceAt_1 : decode cX10_paceAt 1 = .ok (.iconst 1, 1) := by decide +kernel
theorem dX10_paceAt_2 : decode cX10_paceAt 2 = .ok (.if_icmp .lt 9, 3) := by decide +kernel
theorem dX10_paceAt_5 : decode cX10_paceAt 5 = .ok (.iload_n 1, 1) := by decide +kernel
theorem dX10_paceAt_6 : decode cX10_paceAt 6 = .ok (.bipush 40, 2) := by decide +kernel
theorem dX10_paceAt_8 : decode cX10_paceAt 8 = .ok (.if_icmp .le 5, 3) := by decide +kernel
theorem dX10_paceAt_11 : decode cX10_paceAt 11 = .ok (.iconst (-1), 1) := by decide +kernel
theorem dX10_paceAt_12 : decode cX10_paceAt 12 = .ok (.ireturn, 1) := by decide +kernel
theorem dX10_paceAt_13 : decode cX10_paceAt 13 = .ok (.aload_n 0, 1) := by decide +kernel
theorem dX10_paceAt_14 : decode cX10_paceAt 14 = .ok (.getfield 10, 3) := by decide +kernel
theorem dX10_paceAt_17 : decode cX10_paceAt 17 = .ok (.getfield 62, 3) := by decide +kernel
theorem dX10_paceAt_20 : decode cX10_paceAt 20 = .ok (.invokevirtual 134, 3) := by decide +kernel
theorem dX10_paceAt_23 : decode cX10_paceAt 23 = .ok (.ifCond .ne 6, 3) := by decide +kernel
theorem dX10_paceAt_26 : decode cX10_paceAt 26 = .ok (.bipush (-4), 2) := by decide +kernel
theorem dX10_paceAt_28 : decode cX10_paceAt 28 = .ok (.ireturn, 1) := by decide +kernel
theorem dX10_paceAt_29 : decode cX10_paceAt 29 = .ok (.aload_n 0, 1) := by decide +kernel
theorem dX10_paceAt_30 : decode cX10_paceAt 30 = .ok (.getfield 37, 3) := by decide +kernel
theorem dX10_paceAt_33 : decode cX10_paceAt 33 = .ok (.aload_n 0, 1) := by decide +kernel
theorem dX10_paceAt_34 : decode cX10_paceAt 34 = .ok (.getfield 10, 3) := by decide +kernel
theorem dX10_paceAt_37 : decode cX10_paceAt 37 = .ok (.getfield 62, 3) := by decide +kernel
theorem dX10_paceAt_40 : decode cX10_paceAt 40 = .ok (.invokevirtual 123, 3) := by decide +kernel
theorem dX10_paceAt_43 : decode cX10_paceAt 43 = .ok (.aload_n 0, 1) := by decide +kernel
theorem dX10_paceAt_44 : decode cX10_paceAt 44 = .ok (.getfield 37, 3) := by decide +kernel
theorem dX10_paceAt_47 : decode cX10_paceAt 47 = .ok (.aload_n 0, 1) := by decide +kernel
theorem dX10_paceAt_48 : decode cX10_paceAt 48 = .ok (.getfield 10, 3) := by decide +kernel
theorem dX10_paceAt_51 : decode cX10_paceAt 51 = .ok (.getfield 62, 3) := by decide +kernel
theorem dX10_paceAt_54 : decode cX10_paceAt 54 = .ok (.iload_n 1, 1) := by decide +kernel
theorem dX10_paceAt_55 : decode cX10_paceAt 55 = .ok (.invokevirtual 127, 3) := by decide +kernel
theorem dX10_paceAt_58 : decode cX10_paceAt 58 = .ok (.aload_n 0, 1) := by decide +kernel
theorem dX10_paceAt_59 : decode cX10_paceAt 59 = .ok (.getfield 37, 3) := by decide +kernel
theorem dX10_paceAt_62 : decode cX10_paceAt 62 = .ok (.aload_n 0, 1) := by decide +kernel
theorem dX10_paceAt_63 : decode cX10_paceAt 63 = .ok (.getfield 10, 3) := by decide +kernel
theorem dX10_paceAt_66 : decode cX10_paceAt 66 = .ok (.getfield 62, 3) := by decide +kernel
theorem dX10_paceAt_69 : decode cX10_paceAt 69 = .ok (.invokevirtual 138, 3) := by decide +kernel
theorem dX10_paceAt_72 : decode cX10_paceAt 72 = .ok (.ireturn, 1) := by decide +kernel
theorem dX10_slows_0 : decode cX10_slows 0 = .ok (.iload_n 1, 1) := by decide +kernel
theorem dX10_slows_1 : decode cX10_slows 1 = .ok (.iconst 1, 1) := by decide +kernel
theorem dX10_slows_2 : decode cX10_slows 2 = .ok (.if_icmp .lt 19, 3) := by decide +kernel
theorem dX10_slows_5 : decode cX10_slows 5 = .ok (.iload_n 1, 1) := by decide +kernel
theorem dX10_slows_6 : decode cX10_slows 6 = .ok (.bipush 40, 2) := by decide +kernel
theorem dX10_slows_8 : decode cX10_slows 8 = .ok (.if_icmp .gt 13, 3) := by decide +kernel
theorem dX10_slows_11 : decode cX10_slows 11 = .ok (.iload_n 2, 1) := by decide +kernel
theorem dX10_slows_12 : decode cX10_slows 12 = .ok (.ifCond .lt 9, 3) := by decide +kernel
theorem dX10_slows_15 : decode cX10_slows 15 = .ok (.iload_n 2, 1) := by decide +kernel
theorem dX10_slows_16 : decode cX10_slows 16 = .ok (.ldc 142, 2) := by decide +kernel
theorem dX10_slows_18 : decode cX10_slows 18 = .ok (.if_icmp .le 5, 3) := by decide +kernel
theorem dX10_slows_21 : decode cX10_slows 21 = .ok (.iconst (-1), 1) := by decide +kernel
theorem dX10_slows_22 : decode cX10_slows 22 = .ok (.ireturn, 1) := by decide +kernel
theorem dX10_slows_23 : decode cX10_slows 23 = .ok (.aload_n 0, 1) := by decide +kernel
theorem dX10_slows_24 : decode cX10_slows 24 = .ok (.getfield 10, 3) := by decide +kernel
theorem dX10_slows_27 : decode cX10_slows 27 = .ok (.getfield 62, 3) := by decide +kernel
theorem dX10_slows_30 : decode cX10_slows 30 = .ok (.invokevirtual 134, 3) := by decide +kernel
theorem dX10_slows_33 : decode cX10_slows 33 = .ok (.ifCond .ne 6, 3) := by decide +kernel
theorem dX10_slows_36 : decode cX10_slows 36 = .ok (.bipush (-4), 2) := by decide +kernel
theorem dX10_slows_38 : decode cX10_slows 38 = .ok (.ireturn, 1) := by decide +kernel
theorem dX10_slows_39 : decode cX10_slows 39 = .ok (.aload_n 0, 1) := by decide +kernel
theorem dX10_slows_40 : decode cX10_slows 40 = .ok (.getfield 37, 3) := by decide +kernel
theorem dX10_slows_43 : decode cX10_slows 43 = .ok (.aload_n 0, 1) := by decide +kernel
theorem dX10_slows_44 : decode cX10_slows 44 = .ok (.getfield 10, 3) := by decide +kernel
theorem dX10_slows_47 : decode cX10_slows 47 = .ok (.getfield 62, 3) := by decide +kernel
theorem dX10_slows_50 : decode cX10_slows 50 = .ok (.invokevirtual 123, 3) := by decide +kernel
theorem dX10_slows_53 : decode cX10_slows 53 = .ok (.iconst 1, 1) := by decide +kernel
theorem dX10_slows_54 : decode cX10_slows 54 = .ok (.istore_n 3, 1) := by decide +kernel
theorem dX10_slows_55 : decode cX10_slows 55 = .ok (.iload_n 3, 1) := by decide +kernel
theorem dX10_slows_56 : decode cX10_slows 56 = .ok (.sipush 400, 3) := by decide +kernel
theorem dX10_slows_59 : decode cX10_slows 59 = .ok (.if_icmp .gt 59, 3) := by decide +kernel
theorem dX10_slows_62 : decode cX10_slows 62 = .ok (.aload_n 0, 1) := by decide +kernel
theorem dX10_slows_63 : decode cX10_slows 63 = .ok (.getfield 37, 3) := by decide +kernel
theorem dX10_slows_66 : decode cX10_slows 66 = .ok (.aload_n 0, 1) := by decide +kernel
theorem dX10_slows_67 : decode cX10_slows 67 = .ok (.getfield 10, 3) := by decide +kernel
theorem dX10_slows_70 : decode cX10_slows 70 = .ok (.getfield 62, 3) := by decide +kernel
theorem dX10_slows_73 : decode cX10_slows 73 = .ok (.iload_n 3, 1) := by decide +kernel
theorem dX10_slows_74 : decode cX10_slows 74 = .ok (.invokevirtual 143, 3) := by decide +kernel
theorem dX10_slows_77 : decode cX10_slows 77 = .ok (.aload_n 0, 1) := by decide +kernel
theorem dX10_slows_78 : decode cX10_slows 78 = .ok (.getfield 37, 3) := by decide +kernel
theorem dX10_slows_81 : decode cX10_slows 81 = .ok (.aload_n 0, 1) := by decide +kernel
theorem dX10_slows_82 : decode cX10_slows 82 = .ok (.getfield 10, 3) := by decide +kernel
theorem dX10_slows_85 : decode cX10_slows 85 = .ok (.getfield 62, 3) := by decide +kernel
theorem dX10_slows_88 : decode cX10_slows 88 = .ok (.iload_n 1, 1) := by decide +kernel
theorem dX10_slows_89 : decode cX10_slows 89 = .ok (.invokevirtual 127, 3) := by decide +kernel
theorem dX10_slows_92 : decode cX10_slows 92 = .ok (.aload_n 0, 1) := by decide +kernel
theorem dX10_slows_93 : decode cX10_slows 93 = .ok (.getfield 37, 3) := by decide +kernel
theorem dX10_slows_96 : decode cX10_slows 96 = .ok (.aload_n 0, 1) := by decide +kernel
theorem dX10_slows_97 : decode cX10_slows 97 = .ok (.getfield 10, 3) := by decide +kernel
theorem dX10_slows_100 : decode cX10_slows 100 = .ok (.getfield 62, 3) := by decide +kernel
theorem dX10_slows_103 : decode cX10_slows 103 = .ok (.invokevirtual 138, 3) := by decide +kernel
theorem dX10_slows_106 : decode cX10_slows 106 = .ok (.iload_n 2, 1) := by decide +kernel
theorem dX10_slows_107 : decode cX10_slows 107 = .ok (.if_icmp .le 5, 3) := by decide +kernel
theorem dX10_slows_110 : decode cX10_slows 110 = .ok (.iload_n 3, 1) := by decide +kernel
theorem dX10_slows_111 : decode cX10_slows 111 = .ok (.ireturn, 1) := by decide +kernel
theorem dX10_slows_112 : decode cX10_slows 112 = .ok (.iinc 3 1, 3) := by decide +kernel
theorem dX10_slows_115 : decode cX10_slows 115 = .ok (.goto (-60), 3) := by decide +kernel
theorem dX10_slows_118 : decode cX10_slows 118 = .ok (.bipush (-4), 2) := by decide +kernel
theorem dX10_slows_120 : decode cX10_slows 120 = .ok (.ireturn, 1) := by decide +kernel
theorem dX10_apart_0 : decode cX10_apart 0 = .ok (.iload_n 1, 1) := by decide +kernel
theorem dX10_apart_1 : decode cX10_apart 1 = .ok (.ifCond .lt 9, 3) := by decide +kernel
theorem dX10_apart_4 : decode cX10_apart 4 = .ok (.iload_n 1, 1) := by decide +kernel
theorem dX10_apart_5 : decode cX10_apart 5 = .ok (.bipush 40, 2) := by decide +kernel
theorem dX10_apart_7 : decode cX10_apart 7 = .ok (.if_icmp .le 5, 3) := by decide +kernel
theorem dX10_apart_10 : decode cX10_apart 10 = .ok (.iconst (-1), 1) := by decide +kernel
theorem dX10_apart_11 : decode cX10_apart 11 = .ok (.ireturn, 1) := by decide +kernel
theorem dX10_apart_12 : decode cX10_apart 12 = .ok (.aload_n 0, 1) := by decide +kernel
theorem dX10_apart_13 : decode cX10_apart 13 = .ok (.getfield 10, 3) := by decide +kernel
theorem dX10_apart_16 : decode cX10_apart 16 = .ok (.getfield 62, 3) := by decide +kernel
theorem dX10_apart_19 : decode cX10_apart 19 = .ok (.invokevirtual 134, 3) := by decide +kernel
theorem dX10_apart_22 : decode cX10_apart 22 = .ok (.ifCond .ne 6, 3) := by decide +kernel
theorem dX10_apart_25 : decode cX10_apart 25 = .ok (.bipush (-4), 2) := by decide +kernel
theorem dX10_apart_27 : decode cX10_apart 27 = .ok (.ireturn, 1) := by decide +kernel
theorem dX10_apart_28 : decode cX10_apart 28 = .ok (.aload_n 0, 1) := by decide +kernel
theorem dX10_apart_29 : decode cX10_apart 29 = .ok (.getfield 37, 3) := by decide +kernel
theorem dX10_apart_32 : decode cX10_apart 32 = .ok (.aload_n 0, 1) := by decide +kernel
theorem dX10_apart_33 : decode cX10_apart 33 = .ok (.getfield 10, 3) := by decide +kernel
theorem dX10_apart_36 : decode cX10_apart 36 = .ok (.getfield 62, 3) := by decide +kernel
theorem dX10_apart_39 : decode cX10_apart 39 = .ok (.invokevirtual 123, 3) := by decide +kernel
theorem dX10_apart_42 : decode cX10_apart 42 = .ok (.aload_n 0, 1) := by decide +kernel
theorem dX10_apart_43 : decode cX10_apart 43 = .ok (.getfield 37, 3) := by decide +kernel
theorem dX10_apart_46 : decode cX10_apart 46 = .ok (.aload_n 0, 1) := by decide +kernel
theorem dX10_apart_47 : decode cX10_apart 47 = .ok (.getfield 10, 3) := by decide +kernel
theorem dX10_apart_50 : decode cX10_apart 50 = .ok (.getfield 62, 3) := by decide +kernel
theorem dX10_apart_53 : decode cX10_apart 53 = .ok (.iload_n 1, 1) := by decide +kernel
theorem dX10_apart_54 : decode cX10_apart 54 = .ok (.invokevirtual 127, 3) := by decide +kernel
theorem dX10_apart_57 : decode cX10_apart 57 = .ok (.aload_n 0, 1) := by decide +kernel
theorem dX10_apart_58 : decode cX10_apart 58 = .ok (.getfield 37, 3) := by decide +kernel
theorem dX10_apart_61 : decode cX10_apart 61 = .ok (.aload_n 0, 1) := by decide +kernel
theorem dX10_apart_62 : decode cX10_apart 62 = .ok (.getfield 10, 3) := by decide +kernel
theorem dX10_apart_65 : decode cX10_apart 65 = .ok (.getfield 62, 3) := by decide +kernel
theorem dX10_apart_68 : decode cX10_apart 68 = .ok (.invokevirtual 146, 3) := by decide +kernel
theorem dX10_apart_71 : decode cX10_apart 71 = .ok (.ireturn, 1) := by decide +kernel
theorem dX10_count_0 : decode cX10_count 0 = .ok (.iload_n 1, 1) := by decide +kernel
theorem dX10_count_1 : decode cX10_count 1 = .ok (.tableswitch 108 0 5 #[39, 50, 64, 75, 86, 97], 39) := by decide +kernel
theorem dX10_count_40 : decode cX10_count 40 = .ok (.aload_n 0, 1) := by decide +kernel
theorem dX10_count_41 : decode cX10_count 41 = .ok (.getfield 10, 3) := by decide +kernel
theorem dX10_count_44 : decode cX10_count 44 = .ok (.getfield 62, 3) := by decide +kernel
theorem dX10_count_47 : decode cX10_count 47 = .ok (.getfield 66, 3) := by decide +kernel
theorem dX10_count_50 : decode cX10_count 50 = .ok (.ireturn, 1) := by decide +kernel
theorem dX10_count_51 : decode cX10_count 51 = .ok (.aload_n 0, 1) := by decide +kernel
theorem dX10_count_52 : decode cX10_count 52 = .ok (.getfield 10, 3) := by decide +kernel
theorem dX10_count_55 : decode cX10_count 55 = .ok (.getfield 62, 3) := by decide +kernel
theorem dX10_count_58 : decode cX10_count 58 = .ok (.invokevirtual 134, 3) := by decide +kernel
theorem dX10_count_61 : decode cX10_count 61 = .ok (.invokestatic 149, 3) := by decide +kernel
theorem dX10_count_64 : decode cX10_count 64 = .ok (.ireturn, 1) := by decide +kernel
theorem dX10_count_65 : decode cX10_count 65 = .ok (.aload_n 0, 1) := by decide +kernel
theorem dX10_count_66 : decode cX10_count 66 = .ok (.getfield 10, 3) := by decide +kernel
theorem dX10_count_69 : decode cX10_count 69 = .ok (.getfield 62, 3) := by decide +kernel
theorem dX10_count_72 : decode cX10_count 72 = .ok (.invokevirtual 154, 3) := by decide +kernel
theorem dX10_count_75 : decode cX10_count 75 = .ok (.ireturn, 1) := by decide +kernel
theorem dX10_count_76 : decode cX10_count 76 = .ok (.aload_n 0, 1) := by decide +kernel
theorem dX10_count_77 : decode cX10_count 77 = .ok (.getfield 10, 3) := by decide +kernel
theorem dX10_count_80 : decode cX10_count 80 = .ok (.getfield 157, 3) := by decide +kernel
theorem dX10_count_83 : decode cX10_count 83 = .ok (.getfield 161, 3) := by decide +kernel
theorem dX10_count_86 : decode cX10_count 86 = .ok (.ireturn, 1) := by decide +kernel
theorem dX10_count_87 : decode cX10_count 87 = .ok (.aload_n 0, 1) := by decide +kernel
theorem dX10_count_88 : decode cX10_count 88 = .ok (.getfield 10, 3) := by decide +kernel
theorem dX10_count_91 : decode cX10_count 91 = .ok (.getfield 157, 3) := by decide +kernel
theorem dX10_count_94 : decode cX10_count 94 = .ok (.invokevirtual 166, 3) := by decide +kernel
theorem dX10_count_97 : decode cX10_count 97 = .ok (.ireturn, 1) := by decide +kernel
theorem dX10_count_98 : decode cX10_count 98 = .ok (.aload_n 0, 1) := by decide +kernel
theorem dX10_count_99 : decode cX10_count 99 = .ok (.getfield 10, 3) := by decide +kernel
theorem dX10_count_102 : decode cX10_count 102 = .ok (.getfield 169, 3) := by decide +kernel
theorem dX10_count_105 : decode cX10_count 105 = .ok (.getfield 173, 3) := by decide +kernel
theorem dX10_count_108 : decode cX10_count 108 = .ok (.ireturn, 1) := by decide +kernel
theorem dX10_count_109 : decode cX10_count 109 = .ok (.iconst (-1), 1) := by decide +kernel
theorem dX10_count_110 : decode cX10_count 110 = .ok (.ireturn, 1) := by decide +kernel
theorem dX10_hold_0 : decode cX10_hold 0 = .ok (.aload_n 0, 1) := by decide +kernel
theorem dX10_hold_1 : decode cX10_hold 1 = .ok (.getfield 10, 3) := by decide +kernel
theorem dX10_hold_4 : decode cX10_hold 4 = .ok (.getfield 62, 3) := by decide +kernel
theorem dX10_hold_7 : decode cX10_hold 7 = .ok (.iload_n 1, 1) := by decide +kernel
theorem dX10_hold_8 : decode cX10_hold 8 = .ok (.invokevirtual 76, 3) := by decide +kernel
theorem dX10_hold_11 : decode cX10_hold 11 = .ok (.ifCond .eq 12, 3) := by decide +kernel
theorem dX10_hold_14 : decode cX10_hold 14 = .ok (.iload_n 2, 1) := by decide +kernel
theorem dX10_hold_15 : decode cX10_hold 15 = .ok (.ifCond .lt 8, 3) := by decide +kernel
theorem dX10_hold_18 : decode cX10_hold 18 = .ok (.iload_n 2, 1) := by decide +kernel
theorem dX10_hold_19 : decode cX10_hold 19 = .ok (.iconst 1, 1) := by decide +kernel
theorem dX10_hold_20 : decode cX10_hold 20 = .ok (.if_icmp .le 5, 3) := by decide +kernel
theorem dX10_hold_23 : decode cX10_hold 23 = .ok (.iconst (-1), 1) := by decide +kernel
theorem dX10_hold_24 : decode cX10_hold 24 = .ok (.ireturn, 1) := by decide +kernel
theorem dX10_hold_25 : decode cX10_hold 25 = .ok (.aload_n 0, 1) := by decide +kernel
theorem dX10_hold_26 : decode cX10_hold 26 = .ok (.getfield 10, 3) := by decide +kernel
theorem dX10_hold_29 : decode cX10_hold 29 = .ok (.getfield 62, 3) := by decide +kernel
theorem dX10_hold_32 : decode cX10_hold 32 = .ok (.invokevirtual 134, 3) := by decide +kernel
theorem dX10_hold_35 : decode cX10_hold 35 = .ok (.iconst 1, 1) := by decide +kernel
theorem dX10_hold_36 : decode cX10_hold 36 = .ok (.iload_n 1, 1) := by decide +kernel
theorem dX10_hold_37 : decode cX10_hold 37 = .ok (.ishl, 1) := by decide +kernel
theorem dX10_hold_38 : decode cX10_hold 38 = .ok (.iconst (-1), 1) := by decide +kernel
theorem dX10_hold_39 : decode cX10_hold 39 = .ok (.ixor, 1) := by decide +kernel
theorem dX10_hold_40 : decode cX10_hold 40 = .ok (.iand, 1) := by decide +kernel
theorem dX10_hold_41 : decode cX10_hold 41 = .ok (.istore_n 3, 1) := by decide +kernel
theorem dX10_hold_42 : decode cX10_hold 42 = .ok (.aload_n 0, 1) := by decide +kernel
theorem dX10_hold_43 : decode cX10_hold 43 = .ok (.getfield 10, 3) := by decide +kernel
theorem dX10_hold_46 : decode cX10_hold 46 = .ok (.getfield 62, 3) := by decide +kernel
theorem dX10_hold_49 : decode cX10_hold 49 = .ok (.iload_n 1, 1) := by decide +kernel
theorem dX10_hold_50 : decode cX10_hold 50 = .ok (.invokevirtual 176, 3) := by decide +kernel
theorem dX10_hold_53 : decode cX10_hold 53 = .ok (.ifCond .ne 18, 3) := by decide +kernel
theorem dX10_hold_56 : decode cX10_hold 56 = .ok (.aload_n 0, 1) := by decide +kernel
theorem dX10_hold_57 : decode cX10_hold 57 = .ok (.getfield 10, 3) := by decide +kernel
theorem dX10_hold_60 : decode cX10_hold 60 = .ok (.getfield 62, 3) := by decide +kernel
theorem dX10_hold_63 : decode cX10_hold 63 = .ok (.iload_n 1, 1) := by decide +kernel
theorem dX10_hold_64 : decode cX10_hold 64 = .ok (.iload_n 3, 1) := by decide +kernel
theorem dX10_hold_65 : decode cX10_hold 65 = .ok (.invokevirtual 179, 3) := by decide +kernel
theorem dX10_hold_68 : decode cX10_hold 68 = .ok (.ifCond .ne 6, 3) := by decide +kernel
theorem dX10_hold_71 : decode cX10_hold 71 = .ok (.bipush (-4), 2) := by decide +kernel
theorem dX10_hold_73 : decode cX10_hold 73 = .ok (.ireturn, 1) := by decide +kernel
theorem dX10_hold_74 : decode cX10_hold 74 = .ok (.aload_n 0, 1) := by decide +kernel
theorem dX10_hold_75 : decode cX10_hold 75 = .ok (.getfield 10, 3) := by decide +kernel
theorem dX10_hold_78 : decode cX10_hold 78 = .ok (.getfield 62, 3) := by decide +kernel
theorem dX10_hold_81 : decode cX10_hold 81 = .ok (.iload_n 1, 1) := by decide +kernel
theorem dX10_hold_82 : decode cX10_hold 82 = .ok (.iload_n 3, 1) := by decide +kernel
theorem dX10_hold_83 : decode cX10_hold 83 = .ok (.invokevirtual 182, 3) := by decide +kernel
theorem dX10_hold_86 : decode cX10_hold 86 = .ok (.istore 4, 2) := by decide +kernel
theorem dX10_hold_88 : decode cX10_hold 88 = .ok (.iload_n 2, 1) := by decide +kernel
theorem dX10_hold_89 : decode cX10_hold 89 = .ok (.ifCond .ne 8, 3) := by decide +kernel
theorem dX10_hold_92 : decode cX10_hold 92 = .ok (.iload 4, 2) := by decide +kernel
theorem dX10_hold_94 : decode cX10_hold 94 = .ok (.goto 17, 3) := by decide +kernel
theorem dX10_hold_97 : decode cX10_hold 97 = .ok (.aload_n 0, 1) := by decide +kernel
theorem dX10_hold_98 : decode cX10_hold 98 = .ok (.getfield 10, 3) := by decide +kernel
theorem dX10_hold_101 : decode cX10_hold 101 = .ok (.getfield 62, 3) := by decide +kernel
theorem dX10_hold_104 : decode cX10_hold 104 = .ok (.iload_n 1, 1) := by decide +kernel
theorem dX10_hold_105 : decode cX10_hold 105 = .ok (.iload_n 3, 1) := by decide +kernel
theorem dX10_hold_106 : decode cX10_hold 106 = .ok (.iload 4, 2) := by decide +kernel
theorem dX10_hold_108 : decode cX10_hold 108 = .ok (.invokevirtual 186, 3) := by decide +kernel
theorem dX10_hold_111 : decode cX10_hold 111 = .ok (.ireturn, 1) := by decide +kernel
theorem dX10_together_0 : decode cX10_together 0 = .ok (.iload_n 1, 1) := by decide +kernel
theorem dX10_together_1 : decode cX10_together 1 = .ok (.ifCond .eq 20, 3) := by decide +kernel
theorem dX10_together_4 : decode cX10_together 4 = .ok (.iload_n 1, 1) := by decide +kernel
theorem dX10_together_5 : decode cX10_together 5 = .ok (.aload_n 0, 1) := by decide +kernel
theorem dX10_together_6 : decode cX10_together 6 = .ok (.getfield 10, 3) := by decide +kernel
theorem dX10_together_9 : decode cX10_together 9 = .ok (.getfield 62, 3) := by decide +kernel
theorem dX10_together_12 : decode cX10_together 12 = .ok (.invokevirtual 189, 3) := by decide +kernel
theorem dX10_together_15 : decode cX10_together 15 = .ok (.iconst (-1), 1) := by decide +kernel
theorem dX10_together_16 : decode cX10_together 16 = .ok (.ixor, 1) := by decide +kernel
theorem dX10_together_17 : decode cX10_together 17 = .ok (.iand, 1) := by decide +kernel
theorem dX10_together_18 : decode cX10_together 18 = .ok (.ifCond .eq 5, 3) := by decide +kernel
theorem dX10_together_21 : decode cX10_together 21 = .ok (.iconst (-1), 1) := by decide +kernel
theorem dX10_together_22 : decode cX10_together 22 = .ok (.ireturn, 1) := by decide +kernel
theorem dX10_together_23 : decode cX10_together 23 = .ok (.iload_n 2, 1) := by decide +kernel
theorem dX10_together_24 : decode cX10_together 24 = .ok (.bipush 8, 2) := by decide +kernel
theorem dX10_together_26 : decode cX10_together 26 = .ok (.if_icmp .ne 19, 3) := by decide +kernel
theorem dX10_together_29 : decode cX10_together 29 = .ok (.aload_n 0, 1) := by decide +kernel
theorem dX10_together_30 : decode cX10_together 30 = .ok (.getfield 44, 3) := by decide +kernel
theorem dX10_together_33 : decode cX10_together 33 = .ok (.aload_n 0, 1) := by decide +kernel
theorem dX10_together_34 : decode cX10_together 34 = .ok (.getfield 10, 3) := by decide +kernel
theorem dX10_together_37 : decode cX10_together 37 = .ok (.getfield 62, 3) := by decide +kernel
theorem dX10_together_40 : decode cX10_together 40 = .ok (.iload_n 1, 1) := by decide +kernel
theorem dX10_together_41 : decode cX10_together 41 = .ok (.invokevirtual 192, 3) := by decide +kernel
theorem dX10_together_44 : decode cX10_together 44 = .ok (.ireturn, 1) := by decide +kernel
theorem dX10_together_45 : decode cX10_together 45 = .ok (.aload_n 0, 1) := by decide +kernel
theorem dX10_together_46 : decode cX10_together 46 = .ok (.getfield 10, 3) := by decide +kernel
theorem dX10_together_49 : decode cX10_together 49 = .ok (.getfield 62, 3) := by decide +kernel
theorem dX10_together_52 : decode cX10_together 52 = .ok (.iload_n 2, 1) := by decide +kernel
theorem dX10_together_53 : decode cX10_together 53 = .ok (.invokevirtual 76, 3) := by decide +kernel
theorem dX10_together_56 : decode cX10_together 56 = .ok (.ifCond .ne 5, 3) := by decide +kernel
theorem dX10_together_59 : decode cX10_together 59 = .ok (.iconst (-1), 1) := by decide +kernel
theorem dX10_together_60 : decode cX10_together 60 = .ok (.ireturn, 1) := by decide +kernel
theorem dX10_together_61 : decode cX10_together 61 = .ok (.aload_n 0, 1) := by decide +kernel
theorem dX10_together_62 : decode cX10_together 62 = .ok (.getfield 10, 3) := by decide +kernel
theorem dX10_together_65 : decode cX10_together 65 = .ok (.getfield 62, 3) := by decide +kernel
theorem dX10_together_68 : decode cX10_together 68 = .ok (.iload_n 2, 1) := by decide +kernel
theorem dX10_together_69 : decode cX10_together 69 = .ok (.invokevirtual 119, 3) := by decide +kernel
theorem dX10_together_72 : decode cX10_together 72 = .ok (.ifCond .eq 11, 3) := by decide +kernel
theorem dX10_together_75 : decode cX10_together 75 = .ok (.iload_n 1, 1) := by decide +kernel
theorem dX10_together_76 : decode cX10_together 76 = .ok (.iload_n 2, 1) := by decide +kernel
theorem dX10_together_77 : decode cX10_together 77 = .ok (.ishr, 1) := by decide +kernel
theorem dX10_together_78 : decode cX10_together 78 = .ok (.iconst 1, 1) := by decide +kernel
theorem dX10_together_79 : decode cX10_together 79 = .ok (.iand, 1) := by decide +kernel
theorem dX10_together_80 : decode cX10_together 80 = .ok (.ifCond .eq 6, 3) := by decide +kernel
theorem dX10_together_83 : decode cX10_together 83 = .ok (.bipush (-2), 2) := by decide +kernel
theorem dX10_together_85 : decode cX10_together 85 = .ok (.ireturn, 1) := by decide +kernel
theorem dX10_together_86 : decode cX10_together 86 = .ok (.aload_n 0, 1) := by decide +kernel
theorem dX10_together_87 : decode cX10_together 87 = .ok (.getfield 44, 3) := by decide +kernel
theorem dX10_together_90 : decode cX10_together 90 = .ok (.aload_n 0, 1) := by decide +kernel
theorem dX10_together_91 : decode cX10_together 91 = .ok (.getfield 10, 3) := by decide +kernel
theorem dX10_together_94 : decode cX10_together 94 = .ok (.getfield 62, 3) := by decide +kernel
theorem dX10_together_97 : decode cX10_together 97 = .ok (.iload_n 1, 1) := by decide +kernel
theorem dX10_together_98 : decode cX10_together 98 = .ok (.invokevirtual 192, 3) := by decide +kernel
theorem dX10_together_101 : decode cX10_together 101 = .ok (.bipush (-4), 2) := by decide +kernel
theorem dX10_together_103 : decode cX10_together 103 = .ok (.if_icmp .ne 14, 3) := by decide +kernel
theorem dX10_together_106 : decode cX10_together 106 = .ok (.aload_n 0, 1) := by decide +kernel
theorem dX10_together_107 : decode cX10_together 107 = .ok (.getfield 44, 3) := by decide +kernel
theorem dX10_together_110 : decode cX10_together 110 = .ok (.iload_n 2, 1) := by decide +kernel
theorem dX10_together_111 : decode cX10_together 111 = .ok (.invokevirtual 196, 3) := by decide +kernel
theorem dX10_together_114 : decode cX10_together 114 = .ok (.goto 5, 3) := by decide +kernel
theorem dX10_together_117 : decode cX10_together 117 = .ok (.bipush (-4), 2) := by decide +kernel
theorem dX10_together_119 : decode cX10_together 119 = .ok (.ireturn, 1) := by decide +kernel
theorem dX10_type_0 : decode cX10_type 0 = .ok (.iload_n 3, 1) := by decide +kernel
theorem dX10_type_1 : decode cX10_type 1 = .ok (.iconst 1, 1) := by decide +kernel
theorem dX10_type_2 : decode cX10_type 2 = .ok (.if_icmp .lt 17, 3) := by decide +kernel
theorem dX10_type_5 : decode cX10_type 5 = .ok (.iload_n 3, 1) := by decide +kernel
theorem dX10_type_6 : decode cX10_type 6 = .ok (.bipush 8, 2) := by decide +kernel
theorem dX10_type_8 : decode cX10_type 8 = .ok (.if_icmp .gt 11, 3) := by decide +kernel
theorem dX10_type_11 : decode cX10_type 11 = .ok (.lload_n 1, 1) := by decide +kernel
theorem dX10_type_12 : decode cX10_type 12 = .ok (.iload_n 3, 1) := by decide +kernel
theorem dX10_type_13 : decode cX10_type 13 = .ok (.invokestatic 199, 3) := by decide +kernel
theorem dX10_type_16 : decode cX10_type 16 = .ok (.ifCond .ne 5, 3) := by decide +kernel
theorem dX10_type_19 : decode cX10_type 19 = .ok (.iconst (-1), 1) := by decide +kernel
theorem dX10_type_20 : decode cX10_type 20 = .ok (.ireturn, 1) := by decide +kernel
theorem dX10_type_21 : decode cX10_type 21 = .ok (.aload_n 0, 1) := by decide +kernel
theorem dX10_type_22 : decode cX10_type 22 = .ok (.getfield 23, 3) := by decide +kernel
theorem dX10_type_25 : decode cX10_type 25 = .ok (.getfield 203, 3) := by decide +kernel
theorem dX10_type_28 : decode cX10_type 28 = .ok (.iload_n 3, 1) := by decide +kernel
theorem dX10_type_29 : decode cX10_type 29 = .ok (.iadd, 1) := by decide +kernel
theorem dX10_type_30 : decode cX10_type 30 = .ok (.bipush 120, 2) := by decide +kernel
theorem dX10_type_32 : decode cX10_type 32 = .ok (.if_icmp .le 8, 3) := by decide +kernel
theorem dX10_type_35 : decode cX10_type 35 = .ok (.bipush (-3), 2) := by decide +kernel
theorem dX10_type_37 : decode cX10_type 37 = .ok (.goto 12, 3) := by decide +kernel
theorem dX10_type_40 : decode cX10_type 40 = .ok (.aload_n 0, 1) := by decide +kernel
theorem dX10_type_41 : decode cX10_type 41 = .ok (.getfield 23, 3) := by decide +kernel
theorem dX10_type_44 : decode cX10_type 44 = .ok (.lload_n 1, 1) := by decide +kernel
theorem dX10_type_45 : decode cX10_type 45 = .ok (.iload_n 3, 1) := by decide +kernel
theorem dX10_type_46 : decode cX10_type 46 = .ok (.invokevirtual 204, 3) := by decide +kernel
theorem dX10_type_49 : decode cX10_type 49 = .ok (.ireturn, 1) := by decide +kernel
theorem dX10_piece_0 : decode cX10_piece 0 = .ok (.aload_n 0, 1) := by decide +kernel
theorem dX10_piece_1 : decode cX10_piece 1 = .ok (.getfield 23, 3) := by decide +kernel
theorem dX10_piece_4 : decode cX10_piece 4 = .ok (.invokevirtual 208, 3) := by decide +kernel
theorem dX10_piece_7 : decode cX10_piece 7 = .ok (.istore_n 1, 1) := by decide +kernel
theorem dX10_piece_8 : decode cX10_piece 8 = .ok (.iload_n 1, 1) := by decide +kernel
theorem dX10_piece_9 : decode cX10_piece 9 = .ok (.ifCond .le 20, 3) := by decide +kernel
theorem dX10_piece_12 : decode cX10_piece 12 = .ok (.aload_n 0, 1) := by decide +kernel
theorem dX10_piece_13 : decode cX10_piece 13 = .ok (.getfield 10, 3) := by decide +kernel
theorem dX10_piece_16 : decode cX10_piece 16 = .ok (.getfield 157, 3) := by decide +kernel
theorem dX10_piece_19 : decode cX10_piece 19 = .ok (.aload_n 0, 1) := by decide +kernel
theorem dX10_piece_20 : decode cX10_piece 20 = .ok (.getfield 23, 3) := by decide +kernel
theorem dX10_piece_23 : decode cX10_piece 23 = .ok (.getfield 211, 3) := by decide +kernel
theorem dX10_piece_26 : decode cX10_piece 26 = .ok (.invokevirtual 214, 3) := by decide +kernel
theorem dX10_piece_29 : decode cX10_piece 29 = .ok (.aload_n 0, 1) := by decide +kernel
theorem dX10_piece_30 : decode cX10_piece 30 = .ok (.getfield 23, 3) := by decide +kernel
theorem dX10_piece_33 : decode cX10_piece 33 = .ok (.iconst 0, 1) := by decide +kernel
theorem dX10_piece_34 : decode cX10_piece 34 = .ok (.putfield 203, 3) := by decide +kernel
theorem dX10_piece_37 : decode cX10_piece 37 = .ok (.iload_n 1, 1) := by decide +kernel
theorem dX10_piece_38 : decode cX10_piece 38 = .ok (.ireturn, 1) := by decide +kernel
theorem dX10_sound_0 : decode cX10_sound 0 = .ok (.iload_n 1, 1) := by decide +kernel
theorem dX10_sound_1 : decode cX10_sound 1 = .ok (.ifCond .lt 17, 3) := by decide +kernel
theorem dX10_sound_4 : decode cX10_sound 4 = .ok (.iload_n 1, 1) := by decide +kernel
theorem dX10_sound_5 : decode cX10_sound 5 = .ok (.aload_n 0, 1) := by decide +kernel
theorem dX10_sound_6 : decode cX10_sound 6 = .ok (.getfield 10, 3) := by decide +kernel
theorem dX10_sound_9 : decode cX10_sound 9 = .ok (.getfield 157, 3) := by decide +kernel
theorem dX10_sound_12 : decode cX10_sound 12 = .ok (.getfield 161, 3) := by decide +kernel
theorem dX10_sound_15 : decode cX10_sound 15 = .ok (.if_icmp .lt 7, 3) := by decide +kernel
theorem dX10_sound_18 : decode cX10_sound 18 = .ok (.iconst (-1), 1) := by decide +kernel
theorem dX10_sound_19 : decode cX10_sound 19 = .ok (.goto 15, 3) := by decide +kernel
theorem dX10_sound_22 : decode cX10_sound 22 = .ok (.aload_n 0, 1) := by decide +kernel
theorem dX10_sound_23 : decode cX10_sound 23 = .ok (.getfield 10, 3) := by decide +kernel
theorem dX10_sound_26 : decode cX10_sound 26 = .ok (.getfield 157, 3) := by decide +kernel
theorem dX10_sound_29 : decode cX10_sound 29 = .ok (.getfield 218, 3) := by decide +kernel
theorem dX10_sound_32 : decode cX10_sound 32 = .ok (.iload_n 1, 1) := by decide +kernel
theorem dX10_sound_33 : decode cX10_sound 33 = .ok (.iaload, 1) := by decide +kernel
theorem dX10_sound_34 : decode cX10_sound 34 = .ok (.ireturn, 1) := by decide +kernel
theorem dX10_fit_0 : decode cX10_fit 0 = .ok (.iload_n 1, 1) := by decide +kernel
theorem dX10_fit_1 : decode cX10_fit 1 = .ok (.ifCond .lt 9, 3) := by decide +kernel
theorem dX10_fit_4 : decode cX10_fit 4 = .ok (.iload_n 1, 1) := by decide +kernel
theorem dX10_fit_5 : decode cX10_fit 5 = .ok (.bipush 127, 2) := by decide +kernel
theorem dX10_fit_7 : decode cX10_fit 7 = .ok (.if_icmp .le 5, 3) := by decide +kernel
theorem dX10_fit_10 : decode cX10_fit 10 = .ok (.iconst (-1), 1) := by decide +kernel
theorem dX10_fit_11 : decode cX10_fit 11 = .ok (.ireturn, 1) := by decide +kernel
theorem dX10_fit_12 : decode cX10_fit 12 = .ok (.aload_n 0, 1) := by decide +kernel
theorem dX10_fit_13 : decode cX10_fit 13 = .ok (.getfield 10, 3) := by decide +kernel
theorem dX10_fit_16 : decode cX10_fit 16 = .ok (.getfield 221, 3) := by decide +kernel
theorem dX10_fit_19 : decode cX10_fit 19 = .ok (.istore_n 2, 1) := by decide +kernel
theorem dX10_fit_20 : decode cX10_fit 20 = .ok (.aload_n 0, 1) := by decide +kernel
theorem dX10_fit_21 : decode cX10_fit 21 = .ok (.getfield 10, 3) := by decide +kernel
theorem dX10_fit_24 : decode cX10_fit 24 = .ok (.iload_n 1, 1) := by decide +kernel
theorem dX10_fit_25 : decode cX10_fit 25 = .ok (.putfield 221, 3) := by decide +kernel
theorem dX10_fit_28 : decode cX10_fit 28 = .ok (.iload_n 2, 1) := by decide +kernel
theorem dX10_fit_29 : decode cX10_fit 29 = .ok (.ireturn, 1) := by decide +kernel
theorem dX10_clashes_0 : decode cX10_clashes 0 = .ok (.iload_n 1, 1) := by decide +kernel
theorem dX10_clashes_1 : decode cX10_clashes 1 = .ok (.iconst 1, 1) := by decide +kernel
theorem dX10_clashes_2 : decode cX10_clashes 2 = .ok (.if_icmp .lt 17, 3) := by decide +kernel
theorem dX10_clashes_5 : decode cX10_clashes 5 = .ok (.iload_n 1, 1) := by decide +kernel
theorem dX10_clashes_6 : decode cX10_clashes 6 = .ok (.aload_n 0, 1) := by decide +kernel
theorem dX10_clashes_7 : decode cX10_clashes 7 = .ok (.getfield 10, 3) := by decide +kernel
theorem dX10_clashes_10 : decode cX10_clashes 10 = .ok (.getfield 157, 3) := by decide +kernel
theorem dX10_clashes_13 : decode cX10_clashes 13 = .ok (.getfield 161, 3) := by decide +kernel
theorem dX10_clashes_16 : decode cX10_clashes 16 = .ok (.if_icmp .lt 7, 3) := by decide +kernel
theorem dX10_clashes_19 : decode cX10_clashes 19 = .ok (.iconst (-1), 1) := by decide +kernel
theorem dX10_clashes_20 : decode cX10_clashes 20 = .ok (.goto 21, 3) := by decide +kernel
theorem dX10_clashes_23 : decode cX10_clashes 23 = .ok (.aload_n 0, 1) := by decide +kernel
theorem dX10_clashes_24 : decode cX10_clashes 24 = .ok (.getfield 10, 3) := by decide +kernel
theorem dX10_clashes_27 : decode cX10_clashes 27 = .ok (.getfield 157, 3) := by decide +kernel
theorem dX10_clashes_30 : decode cX10_clashes 30 = .ok (.iload_n 1, 1) := by decide +kernel
theorem dX10_clashes_31 : decode cX10_clashes 31 = .ok (.aload_n 0, 1) := by decide +kernel
theorem dX10_clashes_32 : decode cX10_clashes 32 = .ok (.getfield 10, 3) := by decide +kernel
theorem dX10_clashes_35 : decode cX10_clashes 35 = .ok (.getfield 221, 3) := by decide +kernel
theorem dX10_clashes_38 : decode cX10_clashes 38 = .ok (.invokevirtual 224, 3) := by decide +kernel
theorem dX10_clashes_41 : decode cX10_clashes 41 = .ok (.ireturn, 1) := by decide +kernel
theorem dX10_canon_0 : decode cX10_canon 0 = .ok (.iload_n 1, 1) := by decide +kernel
theorem dX10_canon_1 : decode cX10_canon 1 = .ok (.ifCond .ge 5, 3) := by decide +kernel
theorem dX10_canon_4 : decode cX10_canon 4 = .ok (.iconst (-1), 1) := by decide +kernel
theorem dX10_canon_5 : decode cX10_canon 5 = .ok (.ireturn, 1) := by decide +kernel
theorem dX10_canon_6 : decode cX10_canon 6 = .ok (.iconst 0, 1) := by decide +kernel
theorem dX10_canon_7 : decode cX10_canon 7 = .ok (.istore_n 2, 1) := by decide +kernel
theorem dX10_canon_8 : decode cX10_canon 8 = .ok (.iconst 1, 1) := by decide +kernel
theorem dX10_canon_9 : decode cX10_canon 9 = .ok (.istore_n 3, 1) := by decide +kernel
theorem dX10_canon_10 : decode cX10_canon 10 = .ok (.iload_n 3, 1) := by decide +kernel
theorem dX10_canon_11 : decode cX10_canon 11 = .ok (.aload_n 0, 1) := by decide +kernel
theorem dX10_canon_12 : decode cX10_canon 12 = .ok (.getfield 10, 3) := by decide +kernel
theorem dX10_canon_15 : decode cX10_canon 15 = .ok (.getfield 157, 3) := by decide +kernel
theorem dX10_canon_18 : decode cX10_canon 18 = .ok (.getfield 161, 3) := by decide +kernel
theorem dX10_canon_21 : decode cX10_canon 21 = .ok (.if_icmp .ge 40, 3) := by decide +kernel
theorem dX10_canon_24 : decode cX10_canon 24 = .ok (.aload_n 0, 1) := by decide +kernel
theorem dX10_canon_25 : decode cX10_canon 25 = .ok (.getfield 10, 3) := by decide +kernel
theorem dX10_canon_28 : decode cX10_canon 28 = .ok (.getfield 157, 3) := by decide +kernel
theorem dX10_canon_31 : decode cX10_canon 31 = .ok (.iload_n 3, 1) := by decide +kernel
theorem dX10_canon_32 : decode cX10_canon 32 = .ok (.aload_n 0, 1) := by decide +kernel
theorem dX10_canon_33 : decode cX10_canon 33 = .ok (.getfield 10, 3) := by decide +kernel
theorem dX10_canon_36 : decode cX10_canon 36 = .ok (.getfield 221, 3) := by decide +kernel
theorem dX10_canon_39 : decode cX10_canon 39 = .ok (.invokevirtual 224, 3) := by decide +kernel
theorem dX10_canon_42 : decode cX10_canon 42 = .ok (.ifCond .ne 13, 3) := by decide +kernel
theorem dX10_canon_45 : decode cX10_canon 45 = .ok (.iload_n 2, 1) := by decide +kernel
theorem dX10_canon_46 : decode cX10_canon 46 = .ok (.iload_n 1, 1) := by decide +kernel
theorem dX10_canon_47 : decode cX10_canon 47 = .ok (.if_icmp .ne 5, 3) := by decide +kernel
theorem dX10_canon_50 : decode cX10_canon 50 = .ok (.iload_n 3, 1) := by decide +kernel
theorem dX10_canon_51 : decode cX10_canon 51 = .ok (.ireturn, 1) := by decide +kernel
theorem dX10_canon_52 : decode cX10_canon 52 = .ok (.iinc 2 1, 3) := by decide +kernel
theorem dX10_canon_55 : decode cX10_canon 55 = .ok (.iinc 3 1, 3) := by decide +kernel
theorem dX10_canon_58 : decode cX10_canon 58 = .ok (.goto (-48), 3) := by decide +kernel
theorem dX10_canon_61 : decode cX10_canon 61 = .ok (.bipush (-4), 2) := by decide +kernel
theorem dX10_canon_63 : decode cX10_canon 63 = .ok (.ireturn, 1) := by decide +kernel
theorem dX10_sea_0 : decode cX10_sea 0 = .ok (.iload_n 1, 1) := by decide +kernel
theorem dX10_sea_1 : decode cX10_sea 1 = .ok (.iconst 1, 1) := by decide +kernel
theorem dX10_sea_2 : decode cX10_sea 2 = .ok (.if_icmp .lt 20, 3) := by decide +kernel
theorem dX10_sea_5 : decode cX10_sea 5 = .ok (.iload_n 1, 1) := by decide +kernel
theorem dX10_sea_6 : decode cX10_sea 6 = .ok (.bipush 63, 2) := by decide +kernel
theorem dX10_sea_8 : decode cX10_sea 8 = .ok (.if_icmp .gt 14, 3) := by decide +kernel
theorem dX10_sea_11 : decode cX10_sea 11 = .ok (.iload_n 2, 1) := by decide +kernel
theorem dX10_sea_12 : decode cX10_sea 12 = .ok (.iconst 1, 1) := by decide +kernel
theorem dX10_sea_13 : decode cX10_sea 13 = .ok (.if_icmp .lt 9, 3) := by decide +kernel
theorem dX10_sea_16 : decode cX10_sea 16 = .ok (.iload_n 2, 1) := by decide +kernel
theorem dX10_sea_17 : decode cX10_sea 17 = .ok (.ldc 227, 2) := by decide +kernel
theorem dX10_sea_19 : decode cX10_sea 19 = .ok (.if_icmp .le 5, 3) := by decide +kernel
theorem dX10_sea_22 : decode cX10_sea 22 = .ok (.iconst (-1), 1) := by decide +kernel
theorem dX10_sea_23 : decode cX10_sea 23 = .ok (.ireturn, 1) := by decide +kernel
theorem dX10_sea_24 : decode cX10_sea 24 = .ok (.iload_n 2, 1) := by decide +kernel
theorem dX10_sea_25 : decode cX10_sea 25 = .ok (.iload_n 1, 1) := by decide +kernel
theorem dX10_sea_26 : decode cX10_sea 26 = .ok (.irem, 1) := by decide +kernel
theorem dX10_sea_27 : decode cX10_sea 27 = .ok (.ifCond .ne 12, 3) := by decide +kernel
theorem dX10_sea_30 : decode cX10_sea 30 = .ok (.iload_n 2, 1) := by decide +kernel
theorem dX10_sea_31 : decode cX10_sea 31 = .ok (.iload_n 1, 1) := by decide +kernel
theorem dX10_sea_32 : decode cX10_sea 32 = .ok (.idiv, 1) := by decide +kernel
theorem dX10_sea_33 : decode cX10_sea 33 = .ok (.sipush 2000, 3) := by decide +kernel
theorem dX10_sea_36 : decode cX10_sea 36 = .ok (.if_icmp .le 8, 3) := by decide +kernel
theorem dX10_sea_39 : decode cX10_sea 39 = .ok (.bipush (-4), 2) := by decide +kernel
theorem dX10_sea_41 : decode cX10_sea 41 = .ok (.goto 6, 3) := by decide +kernel
theorem dX10_sea_44 : decode cX10_sea 44 = .ok (.iload_n 2, 1) := by decide +kernel
theorem dX10_sea_45 : decode cX10_sea 45 = .ok (.iload_n 1, 1) := by decide +kernel
theorem dX10_sea_46 : decode cX10_sea 46 = .ok (.idiv, 1) := by decide +kernel
theorem dX10_sea_47 : decode cX10_sea 47 = .ok (.ireturn, 1) := by decide +kernel
theorem dX10_lose_0 : decode cX10_lose 0 = .ok (.iload_n 1, 1) := by decide +kernel
theorem dX10_lose_1 : decode cX10_lose 1 = .ok (.iconst 1, 1) := by decide +kernel
theorem dX10_lose_2 : decode cX10_lose 2 = .ok (.if_icmp .lt 24, 3) := by decide +kernel
theorem dX10_lose_5 : decode cX10_lose 5 = .ok (.iload_n 1, 1) := by decide +kernel
theorem dX10_lose_6 : decode cX10_lose 6 = .ok (.bipush 7, 2) := by decide +kernel
theorem dX10_lose_8 : decode cX10_lose 8 = .ok (.if_icmp .gt 18, 3) := by decide +kernel
theorem dX10_lose_11 : decode cX10_lose 11 = .ok (.aload_n 0, 1) := by decide +kernel
theorem dX10_lose_12 : decode cX10_lose 12 = .ok (.getfield 10, 3) := by decide +kernel
theorem dX10_lose_15 : decode cX10_lose 15 = .ok (.getfield 62, 3) := by decide +kernel
theorem dX10_lose_18 : decode cX10_lose 18 = .ok (.iload_n 2, 1) := by decide +kernel
theorem dX10_lose_19 : decode cX10_lose 19 = .ok (.iload_n 3, 1) := by decide +kernel
theorem dX10_lose_20 : decode cX10_lose 20 = .ok (.invokevirtual 88, 3) := by decide +kernel
theorem dX10_lose_23 : decode cX10_lose 23 = .ok (.ifCond .ne 5, 3) := by decide +kernel
theorem dX10_lose_26 : decode cX10_lose 26 = .ok (.iconst (-1), 1) := by decide +kernel
theorem dX10_lose_27 : decode cX10_lose 27 = .ok (.ireturn, 1) := by decide +kernel
theorem dX10_lose_28 : decode cX10_lose 28 = .ok (.aload_n 0, 1) := by decide +kernel
theorem dX10_lose_29 : decode cX10_lose 29 = .ok (.getfield 10, 3) := by decide +kernel
theorem dX10_lose_32 : decode cX10_lose 32 = .ok (.getfield 62, 3) := by decide +kernel
theorem dX10_lose_35 : decode cX10_lose 35 = .ok (.iload_n 1, 1) := by decide +kernel
theorem dX10_lose_36 : decode cX10_lose 36 = .ok (.iload_n 2, 1) := by decide +kernel
theorem dX10_lose_37 : decode cX10_lose 37 = .ok (.iload_n 3, 1) := by decide +kernel
theorem dX10_lose_38 : decode cX10_lose 38 = .ok (.iload 4, 2) := by decide +kernel
theorem dX10_lose_40 : decode cX10_lose 40 = .ok (.invokevirtual 228, 3) := by decide +kernel
theorem dX10_lose_43 : decode cX10_lose 43 = .ok (.ireturn, 1) := by decide +kernel
theorem dX10_goes_0 : decode cX10_goes 0 = .ok (.aload_n 0, 1) := by decide +kernel
theorem dX10_goes_1 : decode cX10_goes 1 = .ok (.getfield 10, 3) := by decide +kernel
theorem dX10_goes_4 : decode cX10_goes 4 = .ok (.getfield 62, 3) := by decide +kernel
theorem dX10_goes_7 : decode cX10_goes 7 = .ok (.iload_n 1, 1) := by decide +kernel
theorem dX10_goes_8 : decode cX10_goes 8 = .ok (.invokevirtual 76, 3) := by decide +kernel
theorem dX10_goes_11 : decode cX10_goes 11 = .ok (.ifCond .eq 13, 3) := by decide +kernel
theorem dX10_goes_14 : decode cX10_goes 14 = .ok (.iload_n 2, 1) := by decide +kernel
theorem dX10_goes_15 : decode cX10_goes 15 = .ok (.ifCond .lt 9, 3) := by decide +kernel
theorem dX10_goes_18 : decode cX10_goes 18 = .ok (.iload_n 2, 1) := by decide +kernel
theorem dX10_goes_19 : decode cX10_goes 19 = .ok (.bipush 7, 2) := by decide +kernel
theorem dX10_goes_21 : decode cX10_goes 21 = .ok (.if_icmp .le 5, 3) := by decide +kernel
theorem dX10_goes_24 : decode cX10_goes 24 = .ok (.iconst (-1), 1) := by decide +kernel
theorem dX10_goes_25 : decode cX10_goes 25 = .ok (.ireturn, 1) := by decide +kernel
theorem dX10_goes_26 : decode cX10_goes 26 = .ok (.aload_n 0, 1) := by decide +kernel
theorem dX10_goes_27 : decode cX10_goes 27 = .ok (.getfield 10, 3) := by decide +kernel
theorem dX10_goes_30 : decode cX10_goes 30 = .ok (.getfield 62, 3) := by decide +kernel
theorem dX10_goes_33 : decode cX10_goes 33 = .ok (.invokevirtual 232, 3) := by decide +kernel
theorem dX10_goes_36 : decode cX10_goes 36 = .ok (.istore_n 3, 1) := by decide +kernel
theorem dX10_goes_37 : decode cX10_goes 37 = .ok (.aload_n 0, 1) := by decide +kernel
theorem dX10_goes_38 : decode cX10_goes 38 = .ok (.getfield 51, 3) := by decide +kernel
theorem dX10_goes_41 : decode cX10_goes 41 = .ok (.aload_n 0, 1) := by decide +kernel
theorem dX10_goes_42 : decode cX10_goes 42 = .ok (.getfield 10, 3) := by decide +kernel
theorem dX10_goes_45 : decode cX10_goes 45 = .ok (.getfield 62, 3) := by decide +kernel
theorem dX10_goes_48 : decode cX10_goes 48 = .ok (.iload_n 2, 1) := by decide +kernel
theorem dX10_goes_49 : decode cX10_goes 49 = .ok (.invokevirtual 235, 3) := by decide +kernel
theorem dX10_goes_52 : decode cX10_goes 52 = .ok (.aload_n 0, 1) := by decide +kernel
theorem dX10_goes_53 : decode cX10_goes 53 = .ok (.getfield 10, 3) := by decide +kernel
theorem dX10_goes_56 : decode cX10_goes 56 = .ok (.getfield 62, 3) := by decide +kernel
theorem dX10_goes_59 : decode cX10_goes 59 = .ok (.iload_n 1, 1) := by decide +kernel
theorem dX10_goes_60 : decode cX10_goes 60 = .ok (.invokevirtual 176, 3) := by decide +kernel
theorem dX10_goes_63 : decode cX10_goes 63 = .ok (.ifCond .ne 18, 3) := by decide +kernel
theorem dX10_goes_66 : decode cX10_goes 66 = .ok (.iload_n 3, 1) := by decide +kernel
theorem dX10_goes_67 : decode cX10_goes 67 = .ok (.aload_n 0, 1) := by decide +kernel
theorem dX10_goes_68 : decode cX10_goes 68 = .ok (.getfield 51, 3) := by decide +kernel
theorem dX10_goes_71 : decode cX10_goes 71 = .ok (.iload_n 1, 1) := by decide +kernel
theorem dX10_goes_72 : decode cX10_goes 72 = .ok (.invokevirtual 238, 3) := by decide +kernel
theorem dX10_goes_75 : decode cX10_goes 75 = .ok (.iconst (-1), 1) := by decide +kernel
theorem dX10_goes_76 : decode cX10_goes 76 = .ok (.ixor, 1) := by decide +kernel
theorem dX10_goes_77 : decode cX10_goes 77 = .ok (.iand, 1) := by decide +kernel
theorem dX10_goes_78 : decode cX10_goes 78 = .ok (.ifCond .eq 6, 3) := by decide +kernel
theorem dX10_goes_81 : decode cX10_goes 81 = .ok (.bipush (-4), 2) := by decide +kernel
theorem dX10_goes_83 : decode cX10_goes 83 = .ok (.ireturn, 1) := by decide +kernel
theorem dX10_goes_84 : decode cX10_goes 84 = .ok (.aload_n 0, 1) := by decide +kernel
theorem dX10_goes_85 : decode cX10_goes 85 = .ok (.getfield 10, 3) := by decide +kernel
theorem dX10_goes_88 : decode cX10_goes 88 = .ok (.getfield 157, 3) := by decide +kernel
theorem dX10_goes_91 : decode cX10_goes 91 = .ok (.aload_n 0, 1) := by decide +kernel
theorem dX10_goes_92 : decode cX10_goes 92 = .ok (.getfield 10, 3) := by decide +kernel
theorem dX10_goes_95 : decode cX10_goes 95 = .ok (.getfield 62, 3) := by decide +kernel
theorem dX10_goes_98 : decode cX10_goes 98 = .ok (.iload_n 3, 1) := by decide +kernel
theorem dX10_goes_99 : decode cX10_goes 99 = .ok (.invokevirtual 241, 3) := by decide +kernel
theorem dX10_goes_102 : decode cX10_goes 102 = .ok (.invokevirtual 244, 3) := by decide +kernel
theorem dX10_goes_105 : decode cX10_goes 105 = .ok (.ireturn, 1) := by decide +kernel
theorem dX10_knows_0 : decode cX10_knows 0 = .ok (.aload_n 0, 1) := by decide +kernel
theorem dX10_knows_1 : decode cX10_knows 1 = .ok (.getfield 10, 3) := by decide +kernel
theorem dX10_knows_4 : decode cX10_knows 4 = .ok (.getfield 62, 3) := by decide +kernel
theorem dX10_knows_7 : decode cX10_knows 7 = .ok (.iload_n 1, 1) := by decide +kernel
theorem dX10_knows_8 : decode cX10_knows 8 = .ok (.invokevirtual 76, 3) := by decide +kernel
theorem dX10_knows_11 : decode cX10_knows 11 = .ok (.ifCond .eq 13, 3) := by decide +kernel
theorem dX10_knows_14 : decode cX10_knows 14 = .ok (.iload_n 2, 1) := by decide +kernel
theorem dX10_knows_15 : decode cX10_knows 15 = .ok (.ifCond .lt 9, 3) := by decide +kernel
theorem dX10_knows_18 : decode cX10_knows 18 = .ok (.iload_n 2, 1) := by decide +kernel
theorem dX10_knows_19 : decode cX10_knows 19 = .ok (.bipush 7, 2) := by decide +kernel
theorem dX10_knows_21 : decode cX10_knows 21 = .ok (.if_icmp .le 5, 3) := by decide +kernel
theorem dX10_knows_24 : decode cX10_knows 24 = .ok (.iconst (-1), 1) := by decide +kernel
theorem dX10_knows_25 : decode cX10_knows 25 = .ok (.ireturn, 1) := by decide +kernel
theorem dX10_knows_26 : decode cX10_knows 26 = .ok (.aload_n 0, 1) := by decide +kernel
theorem dX10_knows_27 : decode cX10_knows 27 = .ok (.getfield 51, 3) := by decide +kernel
theorem dX10_knows_30 : decode cX10_knows 30 = .ok (.aload_n 0, 1) := by decide +kernel
theorem dX10_knows_31 : decode cX10_knows 31 = .ok (.getfield 10, 3) := by decide +kernel
theorem dX10_knows_34 : decode cX10_knows 34 = .ok (.getfield 62, 3) := by decide +kernel
theorem dX10_knows_37 : decode cX10_knows 37 = .ok (.iload_n 2, 1) := by decide +kernel
theorem dX10_knows_38 : decode cX10_knows 38 = .ok (.invokevirtual 235, 3) := by decide +kernel
theorem dX10_knows_41 : decode cX10_knows 41 = .ok (.aload_n 0, 1) := by decide +kernel
theorem dX10_knows_42 : decode cX10_knows 42 = .ok (.getfield 51, 3) := by decide +kernel
theorem dX10_knows_45 : decode cX10_knows 45 = .ok (.iload_n 1, 1) := by decide +kernel
theorem dX10_knows_46 : decode cX10_knows 46 = .ok (.invokevirtual 238, 3) := by decide +kernel
theorem dX10_knows_49 : decode cX10_knows 49 = .ok (.ireturn, 1) := by decide +kernel
theorem dX10_loss_0 : decode cX10_loss 0 = .ok (.lload_n 1, 1) := by decide +kernel
theorem dX10_loss_1 : decode cX10_loss 1 = .ok (.ldc2_w 247, 3) := by decide +kernel
theorem dX10_loss_4 : decode cX10_loss 4 = .ok (.land, 1) := by decide +kernel
theorem dX10_loss_5 : decode cX10_loss 5 = .ok (.lconst 0, 1) := by decide +kernel
theorem dX10_loss_6 : decode cX10_loss 6 = .ok (.lcmp, 1) := by decide +kernel
theorem dX10_loss_7 : decode cX10_loss 7 = .ok (.ifCond .eq 5, 3) := by decide +kernel
theorem dX10_loss_10 : decode cX10_loss 10 = .ok (.iconst (-1), 1) := by decide +kernel
theorem dX10_loss_11 : decode cX10_loss 11 = .ok (.ireturn, 1) := by decide +kernel
theorem dX10_loss_12 : decode cX10_loss 12 = .ok (.aload_n 0, 1) := by decide +kernel
theorem dX10_loss_13 : decode cX10_loss 13 = .ok (.getfield 10, 3) := by decide +kernel
theorem dX10_loss_16 : decode cX10_loss 16 = .ok (.getfield 169, 3) := by decide +kernel
theorem dX10_loss_19 : decode cX10_loss 19 = .ok (.getfield 173, 3) := by decide +kernel
theorem dX10_loss_22 : decode cX10_loss 22 = .ok (.bipush 8, 2) := by decide +kernel
theorem dX10_loss_24 : decode cX10_loss 24 = .ok (.if_icmp .ne 8, 3) := by decide +kernel
theorem dX10_loss_27 : decode cX10_loss 27 = .ok (.bipush (-3), 2) := by decide +kernel
theorem dX10_loss_29 : decode cX10_loss 29 = .ok (.goto 14, 3) := by decide +kernel
theorem dX10_loss_32 : decode cX10_loss 32 = .ok (.aload_n 0, 1) := by decide +kernel
theorem dX10_loss_33 : decode cX10_loss 33 = .ok (.getfield 10, 3) := by decide +kernel
theorem dX10_loss_36 : decode cX10_loss 36 = .ok (.getfield 169, 3) := by decide +kernel
theorem dX10_loss_39 : decode cX10_loss 39 = .ok (.lload_n 1, 1) := by decide +kernel
theorem dX10_loss_40 : decode cX10_loss 40 = .ok (.invokevirtual 249, 3) := by decide +kernel
theorem dX10_loss_43 : decode cX10_loss 43 = .ok (.ireturn, 1) := by decide +kernel
theorem dX10_lost_0 : decode cX10_lost 0 = .ok (.iload_n 1, 1) := by decide +kernel
theorem dX10_lost_1 : decode cX10_lost 1 = .ok (.ifCond .lt 28, 3) := by decide +kernel
theorem dX10_lost_4 : decode cX10_lost 4 = .ok (.iload_n 1, 1) := by decide +kernel
theorem dX10_lost_5 : decode cX10_lost 5 = .ok (.aload_n 0, 1) := by decide +kernel
theorem dX10_lost_6 : decode cX10_lost 6 = .ok (.getfield 10, 3) := by decide +kernel
theorem dX10_lost_9 : decode cX10_lost 9 = .ok (.getfield 169, 3) := by decide +kernel
theorem dX10_lost_12 : decode cX10_lost 12 = .ok (.getfield 173, 3) := by decide +kernel
theorem dX10_lost_15 : decode cX10_lost 15 = .ok (.if_icmp .ge 14, 3) := by decide +kernel
theorem dX10_lost_18 : decode cX10_lost 18 = .ok (.iload_n 2, 1) := by decide +kernel
theorem dX10_lost_19 : decode cX10_lost 19 = .ok (.iconst 1, 1) := by decide +kernel
theorem dX10_lost_20 : decode cX10_lost 20 = .ok (.if_icmp .lt 9, 3) := by decide +kernel
theorem dX10_lost_23 : decode cX10_lost 23 = .ok (.iload_n 2, 1) := by decide +kernel
theorem dX10_lost_24 : decode cX10_lost 24 = .ok (.bipush 12, 2) := by decide +kernel
theorem dX10_lost_26 : decode cX10_lost 26 = .ok (.if_icmp .le 5, 3) := by decide +kernel
theorem dX10_lost_29 : decode cX10_lost 29 = .ok (.iconst (-1), 1) := by decide +kernel
theorem dX10_lost_30 : decode cX10_lost 30 = .ok (.ireturn, 1) := by decide +kernel
theorem dX10_lost_31 : decode cX10_lost 31 = .ok (.aload_n 0, 1) := by decide +kernel
theorem dX10_lost_32 : decode cX10_lost 32 = .ok (.getfield 10, 3) := by decide +kernel
theorem dX10_lost_35 : decode cX10_lost 35 = .ok (.getfield 169, 3) := by decide +kernel
theorem dX10_lost_38 : decode cX10_lost 38 = .ok (.iload_n 1, 1) := by decide +kernel
theorem dX10_lost_39 : decode cX10_lost 39 = .ok (.iload_n 2, 1) := by decide +kernel
theorem dX10_lost_40 : decode cX10_lost 40 = .ok (.invokevirtual 252, 3) := by decide +kernel
theorem dX10_lost_43 : decode cX10_lost 43 = .ok (.ireturn, 1) := by decide +kernel
theorem dX10_group_0 : decode cX10_group 0 = .ok (.bipush 12, 2) := by decide +kernel
theorem dX10_group_2 : decode cX10_group 2 = .ok (.istore_n 1, 1) := by decide +kernel
theorem dX10_group_3 : decode cX10_group 3 = .ok (.iload_n 1, 1) := by decide +kernel
theorem dX10_group_4 : decode cX10_group 4 = .ok (.iconst 1, 1) := by decide +kernel
theorem dX10_group_5 : decode cX10_group 5 = .ok (.if_icmp .lt 25, 3) := by decide +kernel
theorem dX10_group_8 : decode cX10_group 8 = .ok (.aload_n 0, 1) := by decide +kernel
theorem dX10_group_9 : decode cX10_group 9 = .ok (.getfield 10, 3) := by decide +kernel
theorem dX10_group_12 : decode cX10_group 12 = .ok (.getfield 169, 3) := by decide +kernel
theorem dX10_group_15 : decode cX10_group 15 = .ok (.iload_n 1, 1) := by decide +kernel
theorem dX10_group_16 : decode cX10_group 16 = .ok (.invokevirtual 255, 3) := by decide +kernel
theorem dX10_group_19 : decode cX10_group 19 = .ok (.ifCond .eq 5, 3) := by decide +kernel
theorem dX10_group_22 : decode cX10_group 22 = .ok (.iload_n 1, 1) := by decide +kernel
theorem dX10_group_23 : decode cX10_group 23 = .ok (.ireturn, 1) := by decide +kernel
theorem dX10_group_24 : decode cX10_group 24 = .ok (.iinc 1 (-1), 3) := by decide +kernel
theorem dX10_group_27 : decode cX10_group 27 = .ok (.goto (-24), 3) := by decide +kernel
theorem dX10_group_30 : decode cX10_group 30 = .ok (.bipush (-4), 2) := by decide +kernel
theorem dX10_group_32 : decode cX10_group 32 = .ok (.ireturn, 1) := by decide +kernel
theorem dX10_clear_0 : decode cX10_clear 0 = .ok (.aload_n 0, 1) := by decide +kernel
theorem dX10_clear_1 : decode cX10_clear 1 = .ok (.getfield 10, 3) := by decide +kernel
theorem dX10_clear_4 : decode cX10_clear 4 = .ok (.getfield 169, 3) := by decide +kernel
theorem dX10_clear_7 : decode cX10_clear 7 = .ok (.getfield 173, 3) := by decide +kernel
theorem dX10_clear_10 : decode cX10_clear 10 = .ok (.istore_n 1, 1) := by decide +kernel
theorem dX10_clear_11 : decode cX10_clear 11 = .ok (.aload_n 0, 1) := by decide +kernel
theorem dX10_clear_12 : decode cX10_clear 12 = .ok (.getfield 10, 3) := by decide +kernel
theorem dX10_clear_15 : decode cX10_clear 15 = .ok (.getfield 169, 3) := by decide +kernel
theorem dX10_clear_18 : decode cX10_clear 18 = .ok (.iconst 0, 1) := by decide +kernel
theorem dX10_clear_19 : decode cX10_clear 19 = .ok (.putfield 173, 3) := by decide +kernel
theorem dX10_clear_22 : decode cX10_clear 22 = .ok (.iload_n 1, 1) := by decide +kernel
theorem dX10_clear_23 : decode cX10_clear 23 = .ok (.ireturn, 1) := by decide +kernel
theorem dX10_most_0 : decode cX10_most 0 = .ok (.iload_n 1, 1) := by decide +kernel
theorem dX10_most_1 : decode cX10_most 1 = .ok (.iconst 1, 1) := by decide +kernel
theorem dX10_most_2 : decode cX10_most 2 = .ok (.if_icmp .lt 9, 3) := by decide +kernel
theorem dX10_most_5 : decode cX10_most 5 = .ok (.iload_n 1, 1) := by decide +kernel
theorem dX10_most_6 : decode cX10_most 6 = .ok (.bipush 7, 2) := by decide +kernel
theorem dX10_most_8 : decode cX10_most 8 = .ok (.if_icmp .le 5, 3) := by decide +kernel
theorem dX10_most_11 : decode cX10_most 11 = .ok (.iconst (-1), 1) := by decide +kernel
theorem dX10_most_12 : decode cX10_most 12 = .ok (.ireturn, 1) := by decide +kernel
theorem dX10_most_13 : decode cX10_most 13 = .ok (.aload_n 0, 1) := by decide +kernel
theorem dX10_most_14 : decode cX10_most 14 = .ok (.getfield 10, 3) := by decide +kernel
theorem dX10_most_17 : decode cX10_most 17 = .ok (.getfield 62, 3) := by decide +kernel
theorem dX10_most_20 : decode cX10_most 20 = .ok (.getfield 258, 3) := by decide +kernel
theorem dX10_most_23 : decode cX10_most 23 = .ok (.istore_n 2, 1) := by decide +kernel
theorem dX10_most_24 : decode cX10_most 24 = .ok (.aload_n 0, 1) := by decide +kernel
theorem dX10_most_25 : decode cX10_most 25 = .ok (.getfield 10, 3) := by decide +kernel
theorem dX10_most_28 : decode cX10_most 28 = .ok (.getfield 62, 3) := by decide +kernel
theorem dX10_most_31 : decode cX10_most 31 = .ok (.iload_n 1, 1) := by decide +kernel
theorem dX10_most_32 : decode cX10_most 32 = .ok (.putfield 258, 3) := by decide +kernel
theorem dX10_most_35 : decode cX10_most 35 = .ok (.iload_n 2, 1) := by decide +kernel
theorem dX10_most_36 : decode cX10_most 36 = .ok (.ireturn, 1) := by decide +kernel
theorem dX10_net_0 : decode cX10_net 0 = .ok (.aload_n 0, 1) := by decide +kernel
theorem dX10_net_1 : decode cX10_net 1 = .ok (.getfield 10, 3) := by decide +kernel
theorem dX10_net_4 : decode cX10_net 4 = .ok (.getfield 62, 3) := by decide +kernel
theorem dX10_net_7 : decode cX10_net 7 = .ok (.invokevirtual 232, 3) := by decide +kernel
theorem dX10_net_10 : decode cX10_net 10 = .ok (.invokestatic 149, 3) := by decide +kernel
theorem dX10_net_13 : decode cX10_net 13 = .ok (.istore_n 1, 1) := by decide +kernel
theorem dX10_net_14 : decode cX10_net 14 = .ok (.iload_n 1, 1) := by decide +kernel
theorem dX10_net_15 : decode cX10_net 15 = .ok (.iconst 2, 1) := by decide +kernel
theorem dX10_net_16 : decode cX10_net 16 = .ok (.if_icmp .lt 9, 3) := by decide +kernel
theorem dX10_net_19 : decode cX10_net 19 = .ok (.iload_n 1, 1) := by decide +kernel
theorem dX10_net_20 : decode cX10_net 20 = .ok (.bipush 6, 2) := by decide +kernel
theorem dX10_net_22 : decode cX10_net 22 = .ok (.if_icmp .le 8, 3) := by decide +kernel
theorem dX10_net_25 : decode cX10_net 25 = .ok (.bipush (-2), 2) := by decide +kernel
theorem dX10_net_27 : decode cX10_net 27 = .ok (.goto 17, 3) := by decide +kernel
theorem dX10_net_30 : decode cX10_net 30 = .ok (.aload_n 0, 1) := by decide +kernel
theorem dX10_net_31 : decode cX10_net 31 = .ok (.getfield 58, 3) := by decide +kernel
theorem dX10_net_34 : decode cX10_net 34 = .ok (.aload_n 0, 1) := by decide +kernel
theorem dX10_net_35 : decode cX10_net 35 = .ok (.getfield 10, 3) := by decide +kernel
theorem dX10_net_38 : decode cX10_net 38 = .ok (.getfield 62, 3) := by decide +kernel
theorem dX10_net_41 : decode cX10_net 41 = .ok (.invokevirtual 261, 3) := by decide +kernel
theorem dX10_net_44 : decode cX10_net 44 = .ok (.ireturn, 1) := by decide +kernel
theorem dX10_image_0 : decode cX10_image 0 = .ok (.iload_n 1, 1) := by decide +kernel
theorem dX10_image_1 : decode cX10_image 1 = .ok (.ifCond .lt 8, 3) := by decide +kernel
theorem dX10_image_4 : decode cX10_image 4 = .ok (.iload_n 1, 1) := by decide +kernel
theorem dX10_image_5 : decode cX10_image 5 = .ok (.iconst 2, 1) := by decide +kernel
theorem dX10_image_6 : decode cX10_image 6 = .ok (.if_icmp .lt 5, 3) := by decide +kernel
theorem dX10_image_9 : decode cX10_image 9 = .ok (.iconst (-1), 1) := by decide +kernel
theorem dX10_image_10 : decode cX10_image 10 = .ok (.ireturn, 1) := by decide +kernel
theorem dX10_image_11 : decode cX10_image 11 = .ok (.aload_n 0, 1) := by decide +kernel
theorem dX10_image_12 : decode cX10_image 12 = .ok (.getfield 16, 3) := by decide +kernel
theorem dX10_image_15 : decode cX10_image 15 = .ok (.iload_n 1, 1) := by decide +kernel
theorem dX10_image_16 : decode cX10_image 16 = .ok (.aaload, 1) := by decide +kernel
theorem dX10_image_17 : decode cX10_image 17 = .ok (.ifnonnull 16, 3) := by decide +kernel
theorem dX10_image_20 : decode cX10_image 20 = .ok (.aload_n 0, 1) := by decide +kernel
theorem dX10_image_21 : decode cX10_image 21 = .ok (.getfield 16, 3) := by decide +kernel
theorem dX10_image_24 : decode cX10_image 24 = .ok (.iload_n 1, 1) := by decide +kernel
theorem dX10_image_25 : decode cX10_image 25 = .ok (.new 7, 3) := by decide +kernel
theorem dX10_image_28 : decode cX10_image 28 = .ok (.dup, 1) := by decide +kernel
theorem dX10_image_29 : decode cX10_image 29 = .ok (.invokespecial 9, 3) := by decide +kernel
theorem dX10_image_32 : decode cX10_image 32 = .ok (.aastore, 1) := by decide +kernel
theorem dX10_image_33 : decode cX10_image 33 = .ok (.aload_n 0, 1) := by decide +kernel
theorem dX10_image_34 : decode cX10_image 34 = .ok (.getfield 16, 3) := by decide +kernel
theorem dX10_image_37 : decode cX10_image 37 = .ok (.iload_n 1, 1) := by decide +kernel
theorem dX10_image_38 : decode cX10_image 38 = .ok (.aaload, 1) := by decide +kernel
theorem dX10_image_39 : decode cX10_image 39 = .ok (.aload_n 0, 1) := by decide +kernel
theorem dX10_image_40 : decode cX10_image 40 = .ok (.getfield 10, 3) := by decide +kernel
theorem dX10_image_43 : decode cX10_image 43 = .ok (.invokevirtual 264, 3) := by decide +kernel
theorem dX10_image_46 : decode cX10_image 46 = .ok (.iconst 1, 1) := by decide +kernel
theorem dX10_image_47 : decode cX10_image 47 = .ok (.ireturn, 1) := by decide +kernel
theorem dX10_restore_0 : decode cX10_restore 0 = .ok (.iload_n 1, 1) := by decide +kernel
theorem dX10_restore_1 : decode cX10_restore 1 = .ok (.ifCond .lt 8, 3) := by decide +kernel
theorem dX10_restore_4 : decode cX10_restore 4 = .ok (.iload_n 1, 1) := by decide +kernel
theorem dX10_restore_5 : decode cX10_restore 5 = .ok (.iconst 2, 1) := by decide +kernel
theorem dX10_restore_6 : decode cX10_restore 6 = .ok (.if_icmp .lt 5, 3) := by decide +kernel
theorem dX10_restore_9 : decode cX10_restore 9 = .ok (.iconst (-1), 1) := by decide +kernel
theorem dX10_restore_10 : decode cX10_restore 10 = .ok (.ireturn, 1) := by decide +kernel
theorem dX10_restore_11 : decode cX10_restore 11 = .ok (.aload_n 0, 1) := by decide +kernel
theorem dX10_restore_12 : decode cX10_restore 12 = .ok (.getfield 16, 3) := by decide +kernel
theorem dX10_restore_15 : decode cX10_restore 15 = .ok (.iload_n 1, 1) := by decide +kernel
theorem dX10_restore_16 : decode cX10_restore 16 = .ok (.aaload, 1) := by decide +kernel
theorem dX10_restore_17 : decode cX10_restore 17 = .ok (.ifnonnull 6, 3) := by decide +kernel
theorem dX10_restore_20 : decode cX10_restore 20 = .ok (.bipush (-4), 2) := by decide +kernel
theorem dX10_restore_22 : decode cX10_restore 22 = .ok (.ireturn, 1) := by decide +kernel
theorem dX10_restore_23 : decode cX10_restore 23 = .ok (.aload_n 0, 1) := by decide +kernel
theorem dX10_restore_24 : decode cX10_restore 24 = .ok (.getfield 10, 3) := by decide +kernel
theorem dX10_restore_27 : decode cX10_restore 27 = .ok (.aload_n 0, 1) := by decide +kernel
theorem dX10_restore_28 : decode cX10_restore 28 = .ok (.getfield 16, 3) := by decide +kernel
theorem dX10_restore_31 : decode cX10_restore 31 = .ok (.iload_n 1, 1) := by decide +kernel
theorem dX10_restore_32 : decode cX10_restore 32 = .ok (.aaload, 1) := by decide +kernel
theorem dX10_restore_33 : decode cX10_restore 33 = .ok (.invokevirtual 264, 3) := by decide +kernel
theorem dX10_restore_36 : decode cX10_restore 36 = .ok (.iconst 1, 1) := by decide +kernel
theorem dX10_restore_37 : decode cX10_restore 37 = .ok (.ireturn, 1) := by decide +kernel
theorem dX10_sheet_0 : decode cX10_sheet 0 = .ok (.iload_n 1, 1) := by decide +kernel
theorem dX10_sheet_1 : decode cX10_sheet 1 = .ok (.invokestatic 95, 3) := by decide +kernel
theorem dX10_sheet_4 : decode cX10_sheet 4 = .ok (.ifCond .eq 16, 3) := by decide +kernel
theorem dX10_sheet_7 : decode cX10_sheet 7 = .ok (.iload_n 2, 1) := by decide +kernel
theorem dX10_sheet_8 : decode cX10_sheet 8 = .ok (.invokestatic 98, 3) := by decide +kernel
theorem dX10_sheet_11 : decode cX10_sheet 11 = .ok (.ifCond .eq 9, 3) := by decide +kernel
theorem dX10_sheet_14 : decode cX10_sheet 14 = .ok (.iload_n 3, 1) := by decide +kernel
theorem dX10_sheet_15 : decode cX10_sheet 15 = .ok (.bipush 40, 2) := by decide +kernel
theorem dX10_sheet_17 : decode cX10_sheet 17 = .ok (.if_icmp .le 5, 3) := by decide +kernel
theorem dX10_sheet_20 : decode cX10_sheet 20 = .ok (.iconst (-1), 1) := by decide +kernel
theorem dX10_sheet_21 : decode cX10_sheet 21 = .ok (.ireturn, 1) := by decide +kernel
theorem dX10_sheet_22 : decode cX10_sheet 22 = .ok (.iload_n 3, 1) := by decide +kernel
theorem dX10_sheet_23 : decode cX10_sheet 23 = .ok (.ifCond .ge 8, 3) := by decide +kernel
theorem dX10_sheet_26 : decode cX10_sheet 26 = .ok (.bipush (-14), 2) := by decide +kernel
theorem dX10_sheet_28 : decode cX10_sheet 28 = .ok (.goto 14, 3) := by decide +kernel
theorem dX10_sheet_31 : decode cX10_sheet 31 = .ok (.aload_n 0, 1) := by decide +kernel
theorem dX10_sheet_32 : decode cX10_sheet 32 = .ok (.getfield 30, 3) := by decide +kernel
theorem dX10_sheet_35 : decode cX10_sheet 35 = .ok (.iload_n 1, 1) := by decide +kernel
theorem dX10_sheet_36 : decode cX10_sheet 36 = .ok (.aaload, 1) := by decide +kernel
theorem dX10_sheet_37 : decode cX10_sheet 37 = .ok (.iload_n 2, 1) := by decide +kernel
theorem dX10_sheet_38 : decode cX10_sheet 38 = .ok (.iload_n 3, 1) := by decide +kernel
theorem dX10_sheet_39 : decode cX10_sheet 39 = .ok (.invokevirtual 267, 3) := by decide +kernel
theorem dX10_sheet_42 : decode cX10_sheet 42 = .ok (.ireturn, 1) := by decide +kernel
theorem dX10_drop_0 : decode cX10_drop 0 = .ok (.iload_n 1, 1) := by decide +kernel
theorem dX10_drop_1 : decode cX10_drop 1 = .ok (.invokestatic 95, 3) := by decide +kernel
theorem dX10_drop_4 : decode cX10_drop 4 = .ok (.ifCond .ne 5, 3) := by decide +kernel
theorem dX10_drop_7 : decode cX10_drop 7 = .ok (.iconst (-1), 1) := by decide +kernel
theorem dX10_drop_8 : decode cX10_drop 8 = .ok (.ireturn, 1) := by decide +kernel
theorem dX10_drop_9 : decode cX10_drop 9 = .ok (.aload_n 0, 1) := by decide +kernel
theorem dX10_drop_10 : decode cX10_drop 10 = .ok (.getfield 30, 3) := by decide +kernel
theorem dX10_drop_13 : decode cX10_drop 13 = .ok (.iload_n 1, 1) := by decide +kernel
theorem dX10_drop_14 : decode cX10_drop 14 = .ok (.aaload, 1) := by decide +kernel
theorem dX10_drop_15 : decode cX10_drop 15 = .ok (.getfield 270, 3) := by decide +kernel
theorem dX10_drop_18 : decode cX10_drop 18 = .ok (.iconst (-1), 1) := by decide +kernel
theorem dX10_drop_19 : decode cX10_drop 19 = .ok (.if_icmp .ne 8, 3) := by decide +kernel
theorem dX10_drop_22 : decode cX10_drop 22 = .ok (.bipush (-11), 2) := by decide +kernel
theorem dX10_drop_24 : decode cX10_drop 24 = .ok (.goto 12, 3) := by decide +kernel
theorem dX10_drop_27 : decode cX10_drop 27 = .ok (.aload_n 0, 1) := by decide +kernel
theorem dX10_drop_28 : decode cX10_drop 28 = .ok (.getfield 30, 3) := by decide +kernel
theorem dX10_drop_31 : decode cX10_drop 31 = .ok (.iload_n 1, 1) := by decide +kernel
theorem dX10_drop_32 : decode cX10_drop 32 = .ok (.aaload, 1) := by decide +kernel
theorem dX10_drop_33 : decode cX10_drop 33 = .ok (.invokevirtual 273, 3) := by decide +kernel
theorem dX10_drop_36 : decode cX10_drop 36 = .ok (.ireturn, 1) := by decide +kernel
theorem dX10_item_0 : decode cX10_item 0 = .ok (.iload_n 1, 1) := by decide +kernel
theorem dX10_item_1 : decode cX10_item 1 = .ok (.invokestatic 95, 3) := by decide +kernel
theorem dX10_item_4 : decode cX10_item 4 = .ok (.ifCond .eq 10, 3) := by decide +kernel
theorem dX10_item_7 : decode cX10_item 7 = .ok (.iload_n 2, 1) := by decide +kernel
theorem dX10_item_8 : decode cX10_item 8 = .ok (.invokestatic 98, 3) := by decide +kernel
theorem dX10_item_11 : decode cX10_item 11 = .ok (.ifCond .ne 5, 3) := by decide +kernel
theorem dX10_item_14 : decode cX10_item 14 = .ok (.iconst (-1), 1) := by decide +kernel
theorem dX10_item_15 : decode cX10_item 15 = .ok (.ireturn, 1) := by decide +kernel
theorem dX10_item_16 : decode cX10_item 16 = .ok (.aload_n 0, 1) := by decide +kernel
theorem dX10_item_17 : decode cX10_item 17 = .ok (.getfield 30, 3) := by decide +kernel
theorem dX10_item_20 : decode cX10_item 20 = .ok (.iload_n 1, 1) := by decide +kernel
theorem dX10_item_21 : decode cX10_item 21 = .ok (.aaload, 1) := by decide +kernel
theorem dX10_item_22 : decode cX10_item 22 = .ok (.iload_n 2, 1) := by decide +kernel
theorem dX10_item_23 : decode cX10_item 23 = .ok (.invokevirtual 101, 3) := by decide +kernel
theorem dX10_item_26 : decode cX10_item 26 = .ok (.istore 5, 2) := by decide +kernel
theorem dX10_item_28 : decode cX10_item 28 = .ok (.iload 5, 2) := by decide +kernel
theorem dX10_item_30 : decode cX10_item 30 = .ok (.ifCond .eq 6, 3) := by decide +kernel
theorem dX10_item_33 : decode cX10_item 33 = .ok (.iload 5, 2) := by decide +kernel
theorem dX10_item_35 : decode cX10_item 35 = .ok (.ireturn, 1) := by decide +kernel
theorem dX10_item_36 : decode cX10_item 36 = .ok (.aload_n 0, 1) := by decide +kernel
theorem dX10_item_37 : decode cX10_item 37 = .ok (.getfield 30, 3) := by decide +kernel
theorem dX10_item_40 : decode cX10_item 40 = .ok (.iload_n 1, 1) := by decide +kernel
theorem dX10_item_41 : decode cX10_item 41 = .ok (.aaload, 1) := by decide +kernel
theorem dX10_item_42 : decode cX10_item 42 = .ok (.iload_n 3, 1) := by decide +kernel
theorem dX10_item_43 : decode cX10_item 43 = .ok (.iconst 1, 1) := by decide +kernel
theorem dX10_item_44 : decode cX10_item 44 = .ok (.invokevirtual 104, 3) := by decide +kernel
theorem dX10_item_47 : decode cX10_item 47 = .ok (.ifCond .eq 18, 3) := by decide +kernel
theorem dX10_item_50 : decode cX10_item 50 = .ok (.aload_n 0, 1) := by decide +kernel
theorem dX10_item_51 : decode cX10_item 51 = .ok (.getfield 30, 3) := by decide +kernel
theorem dX10_item_54 : decode cX10_item 54 = .ok (.iload_n 1, 1) := by decide +kernel
theorem dX10_item_55 : decode cX10_item 55 = .ok (.aaload, 1) := by decide +kernel
theorem dX10_item_56 : decode cX10_item 56 = .ok (.iload_n 3, 1) := by decide +kernel
theorem dX10_item_57 : decode cX10_item 57 = .ok (.iload 4, 2) := by decide +kernel
theorem dX10_item_59 : decode cX10_item 59 = .ok (.invokevirtual 276, 3) := by decide +kernel
theorem dX10_item_62 : decode cX10_item 62 = .ok (.goto 5, 3) := by decide +kernel
theorem dX10_item_65 : decode cX10_item 65 = .ok (.bipush (-13), 2) := by decide +kernel
theorem dX10_item_67 : decode cX10_item 67 = .ok (.ireturn, 1) := by decide +kernel
theorem dX10_copy_0 : decode cX10_copy 0 = .ok (.iload_n 1, 1) := by decide +kernel
theorem dX10_copy_1 : decode cX10_copy 1 = .ok (.invokestatic 95, 3) := by decide +kernel
theorem dX10_copy_4 : decode cX10_copy 4 = .ok (.ifCond .eq 10, 3) := by decide +kernel
theorem dX10_copy_7 : decode cX10_copy 7 = .ok (.iload_n 3, 1) := by decide +kernel
theorem dX10_copy_8 : decode cX10_copy 8 = .ok (.invokestatic 95, 3) := by decide +kernel
theorem dX10_copy_11 : decode cX10_copy 11 = .ok (.ifCond .ne 5, 3) := by decide +kernel
theorem dX10_copy_14 : decode cX10_copy 14 = .ok (.iconst (-1), 1) := by decide +kernel
theorem dX10_copy_15 : decode cX10_copy 15 = .ok (.ireturn, 1) := by decide +kernel
theorem dX10_copy_16 : decode cX10_copy 16 = .ok (.aload_n 0, 1) := by decide +kernel
theorem dX10_copy_17 : decode cX10_copy 17 = .ok (.getfield 30, 3) := by decide +kernel
theorem dX10_copy_20 : decode cX10_copy 20 = .ok (.iload_n 1, 1) := by decide +kernel
theorem dX10_copy_21 : decode cX10_copy 21 = .ok (.aaload, 1) := by decide +kernel
theorem dX10_copy_22 : decode cX10_copy 22 = .ok (.astore 6, 2) := by decide +kernel
theorem dX10_copy_24 : decode cX10_copy 24 = .ok (.aload 6, 2) := by decide +kernel
theorem dX10_copy_26 : decode cX10_copy 26 = .ok (.getfield 270, 3) := by decide +kernel
theorem dX10_copy_29 : decode cX10_copy 29 = .ok (.iconst (-1), 1) := by decide +kernel
theorem dX10_copy_30 : decode cX10_copy 30 = .ok (.if_icmp .ne 6, 3) := by decide +kernel
theorem dX10_copy_33 : decode cX10_copy 33 = .ok (.bipush (-11), 2) := by decide +kernel
theorem dX10_copy_35 : decode cX10_copy 35 = .ok (.ireturn, 1) := by decide +kernel
theorem dX10_copy_36 : decode cX10_copy 36 = .ok (.aload_n 0, 1) := by decide +kernel
theorem dX10_copy_37 : decode cX10_copy 37 = .ok (.getfield 30, 3) := by decide +kernel
theorem dX10_copy_40 : decode cX10_copy 40 = .ok (.iload_n 3, 1) := by decide +kernel
theorem dX10_copy_41 : decode cX10_copy 41 = .ok (.aaload, 1) := by decide +kernel
theorem dX10_copy_42 : decode cX10_copy 42 = .ok (.aload 6, 2) := by decide +kernel
theorem dX10_copy_44 : decode cX10_copy 44 = .ok (.getfield 270, 3) := by decide +kernel
theorem dX10_copy_47 : decode cX10_copy 47 = .ok (.invokevirtual 101, 3) := by decide +kernel
theorem dX10_copy_50 : decode cX10_copy 50 = .ok (.istore 7, 2) := by decide +kernel
theorem dX10_copy_52 : decode cX10_copy 52 = .ok (.iload 7, 2) := by decide +kernel
theorem dX10_copy_54 : decode cX10_copy 54 = .ok (.ifCond .eq 6, 3) := by decide +kernel
theorem dX10_copy_57 : decode cX10_copy 57 = .ok (.iload 7, 2) := by decide +kernel
theorem dX10_copy_59 : decode cX10_copy 59 = .ok (.ireturn, 1) := by decide +kernel
theorem dX10_copy_60 : decode cX10_copy 60 = .ok (.aload 6, 2) := by decide +kernel
theorem dX10_copy_62 : decode cX10_copy 62 = .ok (.iload_n 2, 1) := by decide +kernel
theorem dX10_copy_63 : decode cX10_copy 63 = .ok (.iload 5, 2) := by decide +kernel
theorem dX10_copy_65 : decode cX10_copy 65 = .ok (.invokevirtual 104, 3) := by decide +kernel
theorem dX10_copy_68 : decode cX10_copy 68 = .ok (.ifCond .eq 19, 3) := by decide +kernel
theorem dX10_copy_71 : decode cX10_copy 71 = .ok (.aload_n 0, 1) := by decide +kernel
theorem dX10_copy_72 : decode cX10_copy 72 = .ok (.getfield 30, 3) := by decide +kernel
theorem dX10_copy_75 : decode cX10_copy 75 = .ok (.iload_n 3, 1) := by decide +kernel
theorem dX10_copy_76 : decode cX10_copy 76 = .ok (.aaload, 1) := by decide +kernel
theorem dX10_copy_77 : decode cX10_copy 77 = .ok (.iload 4, 2) := by decide +kernel
theorem dX10_copy_79 : decode cX10_copy 79 = .ok (.iload 5, 2) := by decide +kernel
theorem dX10_copy_81 : decode cX10_copy 81 = .ok (.invokevirtual 104, 3) := by decide +kernel
theorem dX10_copy_84 : decode cX10_copy 84 = .ok (.ifCond .ne 6, 3) := by decide +kernel
theorem dX10_copy_87 : decode cX10_copy 87 = .ok (.bipush (-13), 2) := by decide +kernel
theorem dX10_copy_89 : decode cX10_copy 89 = .ok (.ireturn, 1) := by decide +kernel
theorem dX10_copy_90 : decode cX10_copy 90 = .ok (.aload 6, 2) := by decide +kernel
theorem dX10_copy_92 : decode cX10_copy 92 = .ok (.getfield 279, 3) := by decide +kernel
theorem dX10_copy_95 : decode cX10_copy 95 = .ok (.iload_n 2, 1) := by decide +kernel
theorem dX10_copy_96 : decode cX10_copy 96 = .ok (.aload_n 0, 1) := by decide +kernel
theorem dX10_copy_97 : decode cX10_copy 97 = .ok (.getfield 30, 3) := by decide +kernel
theorem dX10_copy_100 : decode cX10_copy 100 = .ok (.iload_n 3, 1) := by decide +kernel
theorem dX10_copy_101 : decode cX10_copy 101 = .ok (.aaload, 1) := by decide +kernel
theorem dX10_copy_102 : decode cX10_copy 102 = .ok (.getfield 279, 3) := by decide +kernel
theorem dX10_copy_105 : decode cX10_copy 105 = .ok (.iload 4, 2) := by decide +kernel
theorem dX10_copy_107 : decode cX10_copy 107 = .ok (.iload 5, 2) := by decide +kernel
theorem dX10_copy_109 : decode cX10_copy 109 = .ok (.invokestatic 282, 3) := by decide +kernel
theorem dX10_copy_112 : decode cX10_copy 112 = .ok (.iload 5, 2) := by decide +kernel
theorem dX10_copy_114 : decode cX10_copy 114 = .ok (.ireturn, 1) := by decide +kernel
theorem dX10_isSheet_0 : decode cX10_isSheet 0 = .ok (.iload_n 0, 1) := by decide +kernel
theorem dX10_isSheet_1 : decode cX10_isSheet 1 = .ok (.ifCond .lt 12, 3) := by decide +kernel
theorem dX10_isSheet_4 : decode cX10_isSheet 4 = .ok (.iload_n 0, 1) := by decide +kernel
theorem dX10_isSheet_5 : decode cX10_isSheet 5 = .ok (.iconst 4, 1) := by decide +kernel
theorem dX10_isSheet_6 : decode cX10_isSheet 6 = .ok (.if_icmp .ge 7, 3) := by decide +kernel
theorem dX10_isSheet_9 : decode cX10_isSheet 9 = .ok (.iconst 1, 1) := by decide +kernel
theorem dX10_isSheet_10 : decode cX10_isSheet 10 = .ok (.goto 4, 3) := by decide +kernel
theorem dX10_isSheet_13 : decode cX10_isSheet 13 = .ok (.iconst 0, 1) := by decide +kernel
theorem dX10_isSheet_14 : decode cX10_isSheet 14 = .ok (.ireturn, 1) := by decide +kernel
theorem dX10_isLane_0 : decode cX10_isLane 0 = .ok (.iload_n 0, 1) := by decide +kernel
theorem dX10_isLane_1 : decode cX10_isLane 1 = .ok (.ifCond .lt 12, 3) := by decide +kernel
theorem dX10_isLane_4 : decode cX10_isLane 4 = .ok (.iload_n 0, 1) := by decide +kernel
theorem dX10_isLane_5 : decode cX10_isLane 5 = .ok (.iconst 2, 1) := by decide +kernel
theorem dX10_isLane_6 : decode cX10_isLane 6 = .ok (.if_icmp .gt 7, 3) := by decide +kernel
theorem dX10_isLane_9 : decode cX10_isLane 9 = .ok (.iconst 1, 1) := by decide +kernel
theorem dX10_isLane_10 : decode cX10_isLane 10 = .ok (.goto 4, 3) := by decide +kernel
theorem dX10_isLane_13 : decode cX10_isLane 13 = .ok (.iconst 0, 1) := by decide +kernel
theorem dX10_isLane_14 : decode cX10_isLane 14 = .ok (.ireturn, 1) := by decide +kernel
end
section
theorem dX11_in_0 : decode cX11_in 0 = .ok (.lload_n 0, 1) := by decide +kernel
theorem dX11_in_1 : decode cX11_in 1 = .ok (.lload_n 2, 1) := by decide +kernel
theorem dX11_in_2 : decode cX11_in 2 = .ok (.lcmp, 1) := by decide +kernel
theorem dX11_in_3 : decode cX11_in 3 = .ok (.ifCond .lt 14, 3) := by decide +kernel
theorem dX11_in_6 : decode cX11_in 6 = .ok (.lload_n 0, 1) := by decide +kernel
theorem dX11_in_7 : decode cX11_in 7 = .ok (.lload 4, 2) := by decide +kernel
theorem dX11_in_9 : decode cX11_in 9 = .ok (.lcmp, 1) := by decide +kernel
theorem dX11_in_10 : decode cX11_in 10 = .ok (.ifCond .gt 7, 3) := by decide +kernel
theorem dX11_in_13 : decode cX11_in 13 = .ok (.iconst 1, 1) := by decide +kernel
theorem dX11_in_14 : decode cX11_in 14 = .ok (.goto 4, 3) := by decide +kernel
theorem dX11_in_17 : decode cX11_in 17 = .ok (.iconst 0, 1) := by decide +kernel
theorem dX11_in_18 : decode cX11_in 18 = .ok (.ireturn, 1) := by decide +kernel
theorem dX11_init_0 : decode cX11_init 0 = .ok (.aload_n 0, 1) := by decide +kernel
theorem dX11_init_1 : decode cX11_init 1 = .ok (.invokespecial 1, 3) := by decide +kernel
theorem dX11_init_4 : decode cX11_init 4 = .ok (.aload_n 0, 1) := by decide +kernel
theorem dX11_init_5 : decode cX11_init 5 = .ok (.sipush 648, 3) := by decide +kernel
theorem dX11_init_8 : decode cX11_init 8 = .ok (.newarray .int, 2) := by decide +kernel
theorem dX11_init_10 : decode cX11_init 10 = .ok (.putfield 7, 3) := by decide +kernel
theorem dX11_init_13 : decode cX11_init 13 = .ok (.aload_n 0, 1) := by decide +kernel
theorem dX11_init_14 : decode cX11_init 14 = .ok (.bipush 8, 2) := by decide +kernel
theorem dX11_init_16 : decode cX11_init 16 = .ok (.newarray .long, 2) := by decide +kernel
theorem dX11_init_18 : decode cX11_init 18 = .ok (.putfield 13, 3) := by decide +kernel
theorem dX11_init_21 : decode cX11_init 21 = .ok (.aload_n 0, 1) := by decide +kernel
theorem dX11_init_22 : decode cX11_init 22 = .ok (.sipush 328, 3) := by decide +kernel
theorem dX11_init_25 : decode cX11_init 25 = .ok (.newarray .int, 2) := by decide +kernel
theorem dX11_init_27 : decode cX11_init 27 = .ok (.putfield 17, 3) := by decide +kernel
theorem dX11_init_30 : decode cX11_init 30 = .ok (.aload_n 0, 1) := by decide +kernel
theorem dX11_init_31 : decode cX11_init 31 = .ok (.bipush 8, 2) := by decide +kernel
theorem dX11_init_33 : decode cX11_init 33 = .ok (.newarray .int, 2) := by decide +kernel
theorem dX11_init_35 : decode cX11_init 35 = .ok (.putfield 20, 3) := by decide +kernel
theorem dX11_init_38 : decode cX11_init 38 = .ok (.aload_n 0, 1) := by decide +kernel
theorem dX11_init_39 : decode cX11_init 39 = .ok (.bipush 120, 2) := by decide +kernel
theorem dX11_init_41 : decode cX11_init 41 = .ok (.newarray .int, 2) := by decide +kernel
theorem dX11_init_43 : decode cX11_init 43 = .ok (.putfield 23, 3) := by decide +kernel
theorem dX11_init_46 : decode cX11_init 46 = .ok (.aload_n 0, 1) := by decide +kernel
theorem dX11_init_47 : decode cX11_init 47 = .ok (.bipush 64, 2) := by decide +kernel
theorem dX11_init_49 : decode cX11_init 49 = .ok (.newarray .int, 2) := by decide +kernel
theorem dX11_init_51 : decode cX11_init 51 = .ok (.putfield 26, 3) := by decide +kernel
theorem dX11_init_54 : decode cX11_init 54 = .ok (.aload_n 0, 1) := by decide +kernel
theorem dX11_init_55 : decode cX11_init 55 = .ok (.bipush 8, 2) := by decide +kernel
theorem dX11_init_57 : decode cX11_init 57 = .ok (.newarray .int, 2) := by decide +kernel
theorem dX11_init_59 : decode cX11_init 59 = .ok (.putfield 29, 3) := by decide +kernel
theorem dX11_init_62 : decode cX11_init 62 = .ok (.aload_n 0, 1) := by decide +kernel
theorem dX11_init_63 : decode cX11_init 63 = .ok (.bipush 8, 2) := by decide +kernel
theorem dX11_init_65 : decode cX11_init 65 = .ok (.newarray .int, 2) := by decide +kernel
theorem dX11_init_67 : decode cX11_init 67 = .ok (.putfield 32, 3) := by decide +kernel
theorem dX11_init_70 : decode cX11_init 70 = .ok (.aload_n 0, 1) := by decide +kernel
theorem dX11_init_71 : decode cX11_init 71 = .ok (.bipush 6, 2) := by decide +kernel
theorem dX11_init_73 : decode cX11_init 73 = .ok (.newarray .int, 2) := by decide +kernel
theorem dX11_init_75 : decode cX11_init 75 = .ok (.putfield 35, 3) := by decide +kernel
theorem dX11_init_78 : decode cX11_init 78 = .ok (.aload_n 0, 1) := by decide +kernel
theorem dX11_init_79 : decode cX11_init 79 = .ok (.iconst 4, 1) := by decide +kernel
theorem dX11_init_80 : decode cX11_init 80 = .ok (.newarray .int, 2) := by decide +kernel
theorem dX11_init_82 : decode cX11_init 82 = .ok (.putfield 38, 3) := by decide +kernel
theorem dX11_init_85 : decode cX11_init 85 = .ok (.aload_n 0, 1) := by decide +kernel
theorem dX11_init_86 : decode cX11_init 86 = .ok (.bipush 6, 2) := by decide +kernel
theorem dX11_init_88 : decode cX11_init 88 = .ok (.newarray .int, 2) := by decide +kernel
theorem dX11_init_90 : decode cX11_init 90 = .ok (.putfield 41, 3) := by decide +kernel
theorem dX11_init_93 : decode cX11_init 93 = .ok (.aload_n 0, 1) := by decide +kernel
theorem dX11_init_94 : decode cX11_init 94 = .ok (.bipush 10, 2) := by decide +kernel
theorem dX11_init_96 : decode cX11_init 96 = .ok (.newarray .int, 2) := by decide +kernel
theorem dX11_init_98 : decode cX11_init 98 = .ok (.putfield 44, 3) := by decide +kernel
theorem dX11_init_101 : decode cX11_init 101 = .ok (.aload_n 0, 1) := by decide +kernel
theorem dX11_init_102 : decode cX11_init 102 = .ok (.bipush 36, 2) := by decide +kernel
theorem dX11_init_104 : decode cX11_init 104 = .ok (.newarray .int, 2) := by decide +kernel
theorem dX11_init_106 : decode cX11_init 106 = .ok (.putfield 47, 3) := by decide +kernel
theorem dX11_init_109 : decode cX11_init 109 = .ok (.aload_n 0, 1) := by decide +kernel
theorem dX11_init_110 : decode cX11_init 110 = .ok (.sipush 1296, 3) := by decide +kernel
theorem dX11_init_113 : decode cX11_init 113 = .ok (.newarray .int, 2) := by decide +kernel
theorem dX11_init_115 : decode cX11_init 115 = .ok (.putfield 50, 3) := by decide +kernel
theorem dX11_init_118 : decode cX11_init 118 = .ok (.aload_n 0, 1) := by decide +kernel
theorem dX11_init_119 : decode cX11_init 119 = .ok (.bipush 16, 2) := by decide +kernel
theorem dX11_init_121 : decode cX11_init 121 = .ok (.newarray .long, 2) := by decide +kernel
theorem dX11_init_123 : decode cX11_init 123 = .ok (.putfield 53, 3) := by decide +kernel
theorem dX11_init_126 : decode cX11_init 126 = .ok (.aload_n 0, 1) := by decide +kernel
theorem dX11_init_127 : decode cX11_init 127 = .ok (.iconst 2, 1) := by decide +kernel
theorem dX11_init_128 : decode cX11_init 128 = .ok (.newarray .boolean, 2) := by decide +kernel
theorem dX11_init_130 : decode cX11_init 130 = .ok (.putfield 56, 3) := by decide +kernel
theorem dX11_init_133 : decode cX11_init 133 = .ok (.aload_n 0, 1) := by decide +kernel
theorem dX11_init_134 : decode cX11_init 134 = .ok (.iconst 4, 1) := by decide +kernel
theorem dX11_init_135 : decode cX11_init 135 = .ok (.newarray .int, 2) := by decide +kernel
theorem dX11_init_137 : decode cX11_init 137 = .ok (.putfield 60, 3) := by decide +kernel
theorem dX11_init_140 : decode cX11_init 140 = .ok (.aload_n 0, 1) := by decide +kernel
theorem dX11_init_141 : decode cX11_init 141 = .ok (.iconst 4, 1) := by decide +kernel
theorem dX11_init_142 : decode cX11_init 142 = .ok (.newarray .int, 2) := by decide +kernel
theorem dX11_init_144 : decode cX11_init 144 = .ok (.putfield 63, 3) := by decide +kernel
theorem dX11_init_147 : decode cX11_init 147 = .ok (.aload_n 0, 1) := by decide +kernel
theorem dX11_init_148 : decode cX11_init 148 = .ok (.sipush 160, 3) := by decide +kernel
theorem dX11_init_151 : decode cX11_init 151 = .ok (.newarray .int, 2) := by decide +kernel
theorem dX11_init_153 : decode cX11_init 153 = .ok (.putfield 66, 3) := by decide +kernel
theorem dX11_init_156 : decode cX11_init 156 = .ok (.aload_n 0, 1) := by decide +kernel
theorem dX11_init_157 : decode cX11_init 157 = .ok (.bipush 40, 2) := by decide +kernel
theorem dX11_init_159 : decode cX11_init 159 = .ok (.newarray .int, 2) := by decide +kernel
theorem dX11_init_161 : decode cX11_init 161 = .ok (.putfield 69, 3) := by decide +kernel
theorem dX11_init_164 : decode cX11_init 164 = .ok (.iconst 0, 1) := by decide +kernel
theorem dX11_init_165 : decode cX11_init 165 = .ok (.istore_n 1, 1) := by decide +kernel
theorem dX11_init_166 : decode cX11_init 166 = .ok (.iload_n 1, 1) := by decide +kernel
theorem dX11_init_167 : decode cX11_init 167 = .ok (.iconst 4, 1) := by decide +kernel
theorem dX11_init_168 : decode cX11_init 168 = .ok (.if_icmp .ge 16, 3) := by decide +kernel
theorem dX11_init_171 : decode cX11_init 171 = .ok (.aload_n 0, 1) := by decide +kernel
theorem dX11_init_172 : decode cX11_init 172 = .ok (.getfield 60, 3) := by decide +kernel
theorem dX11_init_175 : decode cX11_init 175 = .ok (.iload_n 1, 1) := by decide +kernel
theorem dX11_init_176 : decode cX11_init 176 = .ok (.iconst (-1), 1) := by decide +kernel
theorem dX11_init_177 : decode cX11_init 177 = .ok (.iastore, 1) := by decide +kernel
theorem dX11_init_178 : decode cX11_init 178 = .ok (.iinc 1 1, 3) := by decide +kernel
theorem dX11_init_181 : decode cX11_init 181 = .ok (.goto (-15), 3) := by decide +kernel
theorem dX11_init_184 : decode cX11_init 184 = .ok (.aload_n 0, 1) := by decide +kernel
theorem dX11_init_185 : decode cX11_init 185 = .ok (.getfield 7, 3) := by decide +kernel
theorem dX11_init_188 : decode cX11_init 188 = .ok (.sipush 128, 3) := by decide +kernel
theorem dX11_init_191 : decode cX11_init 191 = .ok (.sipush 500, 3) := by decide +kernel
theorem dX11_init_194 : decode cX11_init 194 = .ok (.iastore, 1) := by decide +kernel
theorem dX11_init_195 : decode cX11_init 195 = .ok (.aload_n 0, 1) := by decide +kernel
theorem dX11_init_196 : decode cX11_init 196 = .ok (.getfield 7, 3) := by decide +kernel
theorem dX11_init_199 : decode cX11_init 199 = .ok (.sipush 129, 3) := by decide +kernel
theorem dX11_init_202 : decode cX11_init 202 = .ok (.bipush 21, 2) := by decide +kernel
theorem dX11_init_204 : decode cX11_init 204 = .ok (.iastore, 1) := by decide +kernel
theorem dX11_init_205 : decode cX11_init 205 = .ok (.aload_n 0, 1) := by decide +kernel
theorem dX11_init_206 : decode cX11_init 206 = .ok (.getfield 7, 3) := by decide +kernel
theorem dX11_init_209 : decode cX11_init 209 = .ok (.sipush 131, 3) := by decide +kernel
theorem dX11_init_212 : decode cX11_init 212 = .ok (.bipush 7, 2) := by decide +kernel
theorem dX11_init_214 : decode cX11_init 214 = .ok (.iastore, 1) := by decide +kernel
theorem dX11_init_215 : decode cX11_init 215 = .ok (.return_, 1) := by decide +kernel
theorem dX11_rooms_0 : decode cX11_rooms 0 = .ok (.aload_n 0, 1) := by decide +kernel
theorem dX11_rooms_1 : decode cX11_rooms 1 = .ok (.getfield 7, 3) := by decide +kernel
theorem dX11_rooms_4 : decode cX11_rooms 4 = .ok (.iconst 0, 1) := by decide +kernel
theorem dX11_rooms_5 : decode cX11_rooms 5 = .ok (.iaload, 1) := by decide +kernel
theorem dX11_rooms_6 : decode cX11_rooms 6 = .ok (.ireturn, 1) := by decide +kernel
theorem dX11_isRoom_0 : decode cX11_isRoom 0 = .ok (.iload_n 1, 1) := by decide +kernel
theorem dX11_isRoom_1 : decode cX11_isRoom 1 = .ok (.i2l, 1) := by decide +kernel
theorem dX11_isRoom_2 : decode cX11_isRoom 2 = .ok (.lconst 0, 1) := by decide +kernel
theorem dX11_isRoom_3 : decode cX11_isRoom 3 = .ok (.aload_n 0, 1) := by decide +kernel
theorem dX11_isRoom_4 : decode cX11_isRoom 4 = .ok (.getfield 7, 3) := by decide +kernel
theorem dX11_isRoom_7 : decode cX11_isRoom 7 = .ok (.iconst 0, 1) := by decide +kernel
theorem dX11_isRoom_8 : decode cX11_isRoom 8 = .ok (.iaload, 1) := by decide +kernel
theorem dX11_isRoom_9 : decode cX11_isRoom 9 = .ok (.iconst 1, 1) := by decide +kernel
theorem dX11_isRoom_10 : decode cX11_isRoom 10 = .ok (.isub, 1) := by decide +kernel
theorem dX11_isRoom_11 : decode cX11_isRoom 11 = .ok (.i2l, 1) := by decide +kernel
theorem dX11_isRoom_12 : decode cX11_isRoom 12 = .ok (.invokestatic 72, 3) := by decide +kernel
theorem dX11_isRoom_15 : decode cX11_isRoom 15 = .ok (.ireturn, 1) := by decide +kernel
theorem dX11_of_0 : decode cX11_of 0 = .ok (.aload_n 0, 1) := by decide +kernel
theorem dX11_of_1 : decode cX11_of 1 = .ok (.getfield 7, 3) := by decide +kernel
theorem dX11_of_4 : decode cX11_of 4 = .ok (.bipush 8, 2) := by decide +kernel
theorem dX11_of_6 : decode cX11_of 6 = .ok (.bipush 6, 2) := by decide +kernel
theorem dX11_of_8 : decode cX11_of 8 = .ok (.iload_n 1, 1) := by decide +kernel
theorem dX11_of_9 : decode cX11_of 9 = .ok (.imul, 1) := by decide +kernel
theorem dX11_of_10 : decode cX11_of 10 = .ok (.iadd, 1) := by decide +kernel
theorem dX11_of_11 : decode cX11_of 11 = .ok (.iload_n 2, 1) := by decide +kernel
theorem dX11_of_12 : decode cX11_of 12 = .ok (.iadd, 1) := by decide +kernel
theorem dX11_of_13 : decode cX11_of 13 = .ok (.iaload, 1) := by decide +kernel
theorem dX11_of_14 : decode cX11_of 14 = .ok (.ireturn, 1) := by decide +kernel
theorem dX11_wireOf_0 : decode cX11_wireOf 0 = .ok (.aload_n 0, 1) := by decide +kernel
theorem dX11_wireOf_1 : decode cX11_wireOf 1 = .ok (.getfield 7, 3) := by decide +kernel
theorem dX11_wireOf_4 : decode cX11_wireOf 4 = .ok (.bipush 64, 2) := by decide +kernel
theorem dX11_wireOf_6 : decode cX11_wireOf 6 = .ok (.bipush 8, 2) := by decide +kernel
theorem dX11_wireOf_8 : decode cX11_wireOf 8 = .ok (.iload_n 1, 1) := by decide +kernel
theorem dX11_wireOf_9 : decode cX11_wireOf 9 = .ok (.imul, 1) := by decide +kernel
theorem dX11_wireOf_10 : decode cX11_wireOf 10 = .ok (.iadd, 1) := by decide +kernel
theorem dX11_wireOf_11 : decode cX11_wireOf 11 = .ok (.iload_n 2, 1) := by decide +kernel
theorem dX11_wireOf_12 : decode cX11_wireOf 12 = .ok (.iadd, 1) := by decide +kernel
theorem dX11_wireOf_13 : decode cX11_wireOf 13 = .ok (.iaload, 1) := by decide +kernel
theorem dX11_wireOf_14 : decode cX11_wireOf 14 = .ok (.ireturn, 1) := by decide +kernel
theorem dX11_sings_0 : decode cX11_sings 0 = .ok (.aload_n 0, 1) := by decide +kernel
theorem dX11_sings_1 : decode cX11_sings 1 = .ok (.iload_n 1, 1) := by decide +kernel
theorem dX11_sings_2 : decode cX11_sings 2 = .ok (.iconst 0, 1) := by decide +kernel
theorem dX11_sings_3 : decode cX11_sings 3 = .ok (.invokevirtual 76, 3) := by decide +kernel
theorem dX11_sings_6 : decode cX11_sings 6 = .ok (.iconst 4, 1) := by decide +kernel
theorem dX11_sings_7 : decode cX11_sings 7 = .ok (.if_icmp .ge 7, 3) := by decide +kernel
theorem dX11_sings_10 : decode cX11_sings 10 = .ok (.iconst 1, 1) := by decide +kernel
theorem dX11_sings_11 : decode cX11_sings 11 = .ok (.goto 4, 3) := by decide +kernel
theorem dX11_sings_14 : decode cX11_sings 14 = .ok (.iconst 0, 1) := by decide +kernel
theorem dX11_sings_15 : decode cX11_sings 15 = .ok (.ireturn, 1) := by decide +kernel
theorem dX11_isCut_0 : decode cX11_isCut 0 = .ok (.aload_n 0, 1) := by decide +kernel
theorem dX11_isCut_1 : decode cX11_isCut 1 = .ok (.iload_n 1, 1) := by decide +kernel
theorem dX11_isCut_2 : decode cX11_isCut 2 = .ok (.iconst 0, 1) := by decide +kernel
theorem dX11_isCut_3 : decode cX11_isCut 3 = .ok (.invokevirtual 76, 3) := by decide +kernel
theorem dX11_isCut_6 : decode cX11_isCut 6 = .ok (.iconst 5, 1) := by decide +kernel
theorem dX11_isCut_7 : decode cX11_isCut 7 = .ok (.if_icmp .ne 7, 3) := by decide +kernel
theorem dX11_isCut_10 : decode cX11_isCut 10 = .ok (.iconst 1, 1) := by decide +kernel
theorem dX11_isCut_11 : decode cX11_isCut 11 = .ok (.goto 4, 3) := by decide +kernel
theorem dX11_isCut_14 : decode cX11_isCut 14 = .ok (.iconst 0, 1) := by decide +kernel
theorem dX11_isCut_15 : decode cX11_isCut 15 = .ok (.ireturn, 1) := by decide +kernel
theorem dX11_highest_0 : decode cX11_highest 0 = .ok (.iload_n 0, 1) := by decide +kernel
theorem dX11_highest_1 : decode cX11_highest 1 = .ok (.ifCond .ne 7, 3) := by decide +kernel
theorem dX11_highest_4 : decode cX11_highest 4 = .ok (.iconst 5, 1) := by decide +kernel
theorem dX11_highest_5 : decode cX11_highest 5 = .ok (.goto 47, 3) := by decide +kernel
theorem dX11_highest_8 : decode cX11_highest 8 = .ok (.iload_n 0, 1) := by decide +kernel
theorem dX11_highest_9 : decode cX11_highest 9 = .ok (.iconst 1, 1) := by decide +kernel
theorem dX11_highest_10 : decode cX11_highest 10 = .ok (.if_icmp .ne 8, 3) := by decide +kernel
theorem dX11_highest_13 : decode cX11_highest 13 = .ok (.bipush 99, 2) := by decide +kernel
theorem dX11_highest_15 : decode cX11_highest 15 = .ok (.goto 37, 3) := by decide +kernel
theorem dX11_highest_18 : decode cX11_highest 18 = .ok (.iload_n 0, 1) := by decide +kernel
theorem dX11_highest_19 : decode cX11_highest 19 = .ok (.iconst 2, 1) := by decide +kernel
theorem dX11_highest_20 : decode cX11_highest 20 = .ok (.if_icmp .ne 8, 3) := by decide +kernel
theorem dX11_highest_23 : decode cX11_highest 23 = .ok (.bipush 100, 2) := by decide +kernel
theorem dX11_highest_25 : decode cX11_highest 25 = .ok (.goto 27, 3) := by decide +kernel
theorem dX11_highest_28 : decode cX11_highest 28 = .ok (.iload_n 0, 1) := by decide +kernel
theorem dX11_highest_29 : decode cX11_highest 29 = .ok (.iconst 3, 1) := by decide +kernel
theorem dX11_highest_30 : decode cX11_highest 30 = .ok (.if_icmp .ne 9, 3) := by decide +kernel
theorem dX11_highest_33 : decode cX11_highest 33 = .ok (.sipush 999, 3) := by decide +kernel
theorem dX11_highest_36 : decode cX11_highest 36 = .ok (.goto 16, 3) := by decide +kernel
theorem dX11_highest_39 : decode cX11_highest 39 = .ok (.iload_n 0, 1) := by decide +kernel
theorem dX11_highest_40 : decode cX11_highest 40 = .ok (.iconst 4, 1) := by decide +kernel
theorem dX11_highest_41 : decode cX11_highest 41 = .ok (.if_icmp .ne 9, 3) := by decide +kernel
theorem dX11_highest_44 : decode cX11_highest 44 = .ok (.sipush 400, 3) := by decide +kernel
theorem dX11_highest_47 : decode cX11_highest 47 = .ok (.goto 5, 3) := by decide +kernel
theorem dX11_highest_50 : decode cX11_highest 50 = .ok (.bipush 63, 2) := by decide +kernel
theorem dX11_highest_52 : decode cX11_highest 52 = .ok (.ireturn, 1) := by decide +kernel
theorem dX11_room_0 : decode cX11_room 0 = .ok (.iload_n 1, 1) := by decide +kernel
theorem dX11_room_1 : decode cX11_room 1 = .ok (.i2l, 1) := by decide +kernel
theorem dX11_room_2 : decode cX11_room 2 = .ok (.lconst 0, 1) := by decide +kernel
theorem dX11_room_3 : decode cX11_room 3 = .ok (.ldc2_w 80, 3) := by decide +kernel
theorem dX11_room_6 : decode cX11_room 6 = .ok (.invokestatic 72, 3) := by decide +kernel
theorem dX11_room_9 : decode cX11_room 9 = .ok (.ifCond .ne 5, 3) := by decide +kernel
theorem dX11_room_12 : decode cX11_room 12 = .ok (.iconst (-1), 1) := by decide +kernel
theorem dX11_room_13 : decode cX11_room 13 = .ok (.ireturn, 1) := by decide +kernel
theorem dX11_room_14 : decode cX11_room 14 = .ok (.aload_n 0, 1) := by decide +kernel
theorem dX11_room_15 : decode cX11_room 15 = .ok (.invokevirtual 82, 3) := by decide +kernel
theorem dX11_room_18 : decode cX11_room 18 = .ok (.bipush 8, 2) := by decide +kernel
theorem dX11_room_20 : decode cX11_room 20 = .ok (.if_icmp .ne 6, 3) := by decide +kernel
theorem dX11_room_23 : decode cX11_room 23 = .ok (.bipush (-3), 2) := by decide +kernel
theorem dX11_room_25 : decode cX11_room 25 = .ok (.ireturn, 1) := by decide +kernel
theorem dX11_room_26 : decode cX11_room 26 = .ok (.bipush 8, 2) := by decide +kernel
theorem dX11_room_28 : decode cX11_room 28 = .ok (.bipush 6, 2) := by decide +kernel
theorem dX11_room_30 : decode cX11_room 30 = .ok (.aload_n 0, 1) := by decide +kernel
theorem dX11_room_31 : decode cX11_room 31 = .ok (.invokevirtual 82, 3) := by decide +kernel
theorem dX11_room_34 : decode cX11_room 34 = .ok (.imul, 1) := by decide +kernel
theorem dX11_room_35 : decode cX11_room 35 = .ok (.iadd, 1) := by decide +kernel
theorem dX11_room_36 : decode cX11_room 36 = .ok (.istore_n 2, 1) := by decide +kernel
theorem dX11_room_37 : decode cX11_room 37 = .ok (.aload_n 0, 1) := by decide +kernel
theorem dX11_room_38 : decode cX11_room 38 = .ok (.getfield 7, 3) := by decide +kernel
theorem dX11_room_41 : decode cX11_room 41 = .ok (.iload_n 2, 1) := by decide +kernel
theorem dX11_room_42 : decode cX11_room 42 = .ok (.iload_n 1, 1) := by decide +kernel
theorem dX11_room_43 : decode cX11_room 43 = .ok (.iastore, 1) := by decide +kernel
theorem dX11_room_44 : decode cX11_room 44 = .ok (.aload_n 0, 1) := by decide +kernel
theorem dX11_room_45 : decode cX11_room 45 = .ok (.getfield 7, 3) := by decide +kernel
theorem dX11_room_48 : decode cX11_room 48 = .ok (.iload_n 2, 1) := by decide +kernel
theorem dX11_room_49 : decode cX11_room 49 = .ok (.iconst 1, 1) := by decide +kernel
theorem dX11_room_50 : decode cX11_room 50 = .ok (.iadd, 1) := by decide +kernel
theorem dX11_room_51 : decode cX11_room 51 = .ok (.bipush 10, 2) := by decide +kernel
theorem dX11_room_53 : decode cX11_room 53 = .ok (.iastore, 1) := by decide +kernel
theorem dX11_room_54 : decode cX11_room 54 = .ok (.aload_n 0, 1) := by decide +kernel
theorem dX11_room_55 : decode cX11_room 55 = .ok (.getfield 7, 3) := by decide +kernel
theorem dX11_room_58 : decode cX11_room 58 = .ok (.iload_n 2, 1) := by decide +kernel
theorem dX11_room_59 : decode cX11_room 59 = .ok (.iconst 2, 1) := by decide +kernel
theorem dX11_room_60 : decode cX11_room 60 = .ok (.iadd, 1) := by decide +kernel
theorem dX11_room_61 : decode cX11_room 61 = .ok (.bipush 50, 2) := by decide +kernel
theorem dX11_room_63 : decode cX11_room 63 = .ok (.iastore, 1) := by decide +kernel
theorem dX11_room_64 : decode cX11_room 64 = .ok (.aload_n 0, 1) := by decide +kernel
theorem dX11_room_65 : decode cX11_room 65 = .ok (.getfield 7, 3) := by decide +kernel
theorem dX11_room_68 : decode cX11_room 68 = .ok (.iconst 0, 1) := by decide +kernel
theorem dX11_room_69 : decode cX11_room 69 = .ok (.dup2, 1) := by decide +kernel
theorem dX11_room_70 : decode cX11_room 70 = .ok (.iaload, 1) := by decide +kernel
theorem dX11_room_71 : decode cX11_room 71 = .ok (.iconst 1, 1) := by decide +kernel
theorem dX11_room_72 : decode cX11_room 72 = .ok (.iadd, 1) := by decide +kernel
theorem dX11_room_73 : decode cX11_room 73 = .ok (.iastore, 1) := by decide +kernel
theorem dX11_room_74 : decode cX11_room 74 = .ok (.aload_n 0, 1) := by decide +kernel
theorem dX11_room_75 : decode cX11_room 75 = .ok (.invokevirtual 82, 3) := by decide +kernel
theorem dX11_room_78 : decode cX11_room 78 = .ok (.iconst 1, 1) := by decide +kernel
theorem dX11_room_79 : decode cX11_room 79 = .ok (.isub, 1) := by decide +kernel
theorem dX11_room_80 : decode cX11_room 80 = .ok (.ireturn, 1) := by decide +kernel
theorem dX11_set_0 : decode cX11_set 0 = .ok (.aload_n 0, 1) := by decide +kernel
theorem dX11_set_1 : decode cX11_set 1 = .ok (.iload_n 1, 1) := by decide +kernel
theorem dX11_set_2 : decode cX11_set 2 = .ok (.invokevirtual 86, 3) := by decide +kernel
theorem dX11_set_5 : decode cX11_set 5 = .ok (.ifCond .eq 29, 3) := by decide +kernel
theorem dX11_set_8 : decode cX11_set 8 = .ok (.iload_n 2, 1) := by decide +kernel
theorem dX11_set_9 : decode cX11_set 9 = .ok (.i2l, 1) := by decide +kernel
theorem dX11_set_10 : decode cX11_set 10 = .ok (.lconst 0, 1) := by decide +kernel
theorem dX11_set_11 : decode cX11_set 11 = .ok (.ldc2_w 80, 3) := by decide +kernel
theorem dX11_set_14 : decode cX11_set 14 = .ok (.invokestatic 72, 3) := by decide +kernel
theorem dX11_set_17 : decode cX11_set 17 = .ok (.ifCond .eq 17, 3) := by decide +kernel
theorem dX11_set_20 : decode cX11_set 20 = .ok (.iload_n 3, 1) := by decide +kernel
theorem dX11_set_21 : decode cX11_set 21 = .ok (.i2l, 1) := by decide +kernel
theorem dX11_set_22 : decode cX11_set 22 = .ok (.lconst 0, 1) := by decide +kernel
theorem dX11_set_23 : decode cX11_set 23 = .ok (.iload_n 2, 1) := by decide +kernel
theorem dX11_set_24 : decode cX11_set 24 = .ok (.invokestatic 90, 3) := by decide +kernel
theorem dX11_set_27 : decode cX11_set 27 = .ok (.i2l, 1) := by decide +kernel
theorem dX11_set_28 : decode cX11_set 28 = .ok (.invokestatic 72, 3) := by decide +kernel
theorem dX11_set_31 : decode cX11_set 31 = .ok (.ifCond .ne 5, 3) := by decide +kernel
theorem dX11_set_34 : decode cX11_set 34 = .ok (.iconst (-1), 1) := by decide +kernel
theorem dX11_set_35 : decode cX11_set 35 = .ok (.ireturn, 1) := by decide +kernel
theorem dX11_set_36 : decode cX11_set 36 = .ok (.aload_n 0, 1) := by decide +kernel
theorem dX11_set_37 : decode cX11_set 37 = .ok (.iload_n 1, 1) := by decide +kernel
theorem dX11_set_38 : decode cX11_set 38 = .ok (.iload_n 2, 1) := by decide +kernel
theorem dX11_set_39 : decode cX11_set 39 = .ok (.invokevirtual 76, 3) := by decide +kernel
theorem dX11_set_42 : decode cX11_set 42 = .ok (.istore 4, 2) := by decide +kernel
theorem dX11_set_44 : decode cX11_set 44 = .ok (.aload_n 0, 1) := by decide +kernel
theorem dX11_set_45 : decode cX11_set 45 = .ok (.getfield 7, 3) := by decide +kernel
theorem dX11_set_48 : decode cX11_set 48 = .ok (.bipush 8, 2) := by decide +kernel
theorem dX11_set_50 : decode cX11_set 50 = .ok (.bipush 6, 2) := by decide +kernel
theorem dX11_set_52 : decode cX11_set 52 = .ok (.iload_n 1, 1) := by decide +kernel
theorem dX11_set_53 : decode cX11_set 53 = .ok (.imul, 1) := by decide +kernel
theorem dX11_set_54 : decode cX11_set 54 = .ok (.iadd, 1) := by decide +kernel
theorem dX11_set_55 : decode cX11_set 55 = .ok (.iload_n 2, 1) := by decide +kernel
theorem dX11_set_56 : decode cX11_set 56 = .ok (.iadd, 1) := by decide +kernel
theorem dX11_set_57 : decode cX11_set 57 = .ok (.iload_n 3, 1) := by decide +kernel
theorem dX11_set_58 : decode cX11_set 58 = .ok (.iastore, 1) := by decide +kernel
theorem dX11_set_59 : decode cX11_set 59 = .ok (.iload 4, 2) := by decide +kernel
theorem dX11_set_61 : decode cX11_set 61 = .ok (.ireturn, 1) := by decide +kernel
theorem dX11_wire_0 : decode cX11_wire 0 = .ok (.aload_n 0, 1) := by decide +kernel
theorem dX11_wire_1 : decode cX11_wire 1 = .ok (.iload_n 1, 1) := by decide +kernel
theorem dX11_wire_2 : decode cX11_wire 2 = .ok (.invokevirtual 86, 3) := by decide +kernel
theorem dX11_wire_5 : decode cX11_wire 5 = .ok (.ifCond .eq 28, 3) := by decide +kernel
theorem dX11_wire_8 : decode cX11_wire 8 = .ok (.aload_n 0, 1) := by decide +kernel
theorem dX11_wire_9 : decode cX11_wire 9 = .ok (.iload_n 2, 1) := by decide +kernel
theorem dX11_wire_10 : decode cX11_wire 10 = .ok (.invokevirtual 86, 3) := by decide +kernel
theorem dX11_wire_13 : decode cX11_wire 13 = .ok (.ifCond .eq 20, 3) := by decide +kernel
theorem dX11_wire_16 : decode cX11_wire 16 = .ok (.iload_n 1, 1) := by decide +kernel
theorem dX11_wire_17 : decode cX11_wire 17 = .ok (.iload_n 2, 1) := by decide +kernel
theorem dX11_wire_18 : decode cX11_wire 18 = .ok (.if_icmp .eq 15, 3) := by decide +kernel
theorem dX11_wire_21 : decode cX11_wire 21 = .ok (.iload_n 3, 1) := by decide +kernel
theorem dX11_wire_22 : decode cX11_wire 22 = .ok (.i2l, 1) := by decide +kernel
theorem dX11_wire_23 : decode cX11_wire 23 = .ok (.lconst 0, 1) := by decide +kernel
theorem dX11_wire_24 : decode cX11_wire 24 = .ok (.ldc2_w 94, 3) := by decide +kernel
theorem dX11_wire_27 : decode cX11_wire 27 = .ok (.invokestatic 72, 3) := by decide +kernel
theorem dX11_wire_30 : decode cX11_wire 30 = .ok (.ifCond .ne 5, 3) := by decide +kernel
theorem dX11_wire_33 : decode cX11_wire 33 = .ok (.iconst (-1), 1) := by decide +kernel
theorem dX11_wire_34 : decode cX11_wire 34 = .ok (.ireturn, 1) := by decide +kernel
theorem dX11_wire_35 : decode cX11_wire 35 = .ok (.aload_n 0, 1) := by decide +kernel
theorem dX11_wire_36 : decode cX11_wire 36 = .ok (.iload_n 1, 1) := by decide +kernel
theorem dX11_wire_37 : decode cX11_wire 37 = .ok (.iload_n 2, 1) := by decide +kernel
theorem dX11_wire_38 : decode cX11_wire 38 = .ok (.invokevirtual 96, 3) := by decide +kernel
theorem dX11_wire_41 : decode cX11_wire 41 = .ok (.istore 4, 2) := by decide +kernel
theorem dX11_wire_43 : decode cX11_wire 43 = .ok (.aload_n 0, 1) := by decide +kernel
theorem dX11_wire_44 : decode cX11_wire 44 = .ok (.getfield 7, 3) := by decide +kernel
theorem dX11_wire_47 : decode cX11_wire 47 = .ok (.bipush 64, 2) := by decide +kernel
theorem dX11_wire_49 : decode cX11_wire 49 = .ok (.bipush 8, 2) := by decide +kernel
theorem dX11_wire_51 : decode cX11_wire 51 = .ok (.iload_n 1, 1) := by decide +kernel
theorem dX11_wire_52 : decode cX11_wire 52 = .ok (.imul, 1) := by decide +kernel
theorem dX11_wire_53 : decode cX11_wire 53 = .ok (.iadd, 1) := by decide +kernel
theorem dX11_wire_54 : decode cX11_wire 54 = .ok (.iload_n 2, 1) := by decide +kernel
theorem dX11_wire_55 : decode cX11_wire 55 = .ok (.iadd, 1) := by decide +kernel
theorem dX11_wire_56 : decode cX11_wire 56 = .ok (.iload_n 3, 1) := by decide +kernel
theorem dX11_wire_57 : decode cX11_wire 57 = .ok (.iastore, 1) := by decide +kernel
theorem dX11_wire_58 : decode cX11_wire 58 = .ok (.iload 4, 2) := by decide +kernel
theorem dX11_wire_60 : decode cX11_wire 60 = .ok (.ireturn, 1) := by decide +kernel
theorem dX11_wires_0 : decode cX11_wires 0 = .ok (.aload_n 0, 1) := by decide +kernel
theorem dX11_wires_1 : decode cX11_wires 1 = .ok (.iload_n 1, 1) := by decide +kernel
theorem dX11_wires_2 : decode cX11_wires 2 = .ok (.invokevirtual 86, 3) := by decide +kernel
theorem dX11_wires_5 : decode cX11_wires 5 = .ok (.ifCond .eq 17, 3) := by decide +kernel
theorem dX11_wires_8 : decode cX11_wires 8 = .ok (.iload_n 2, 1) := by decide +kernel
theorem dX11_wires_9 : decode cX11_wires 9 = .ok (.invokestatic 99, 3) := by decide +kernel
theorem dX11_wires_12 : decode cX11_wires 12 = .ok (.ifCond .eq 10, 3) := by decide +kernel
theorem dX11_wires_15 : decode cX11_wires 15 = .ok (.iload_n 3, 1) := by decide +kernel
theorem dX11_wires_16 : decode cX11_wires 16 = .ok (.invokestatic 102, 3) := by decide +kernel
theorem dX11_wires_19 : decode cX11_wires 19 = .ok (.ifCond .ne 5, 3) := by decide +kernel
theorem dX11_wires_22 : decode cX11_wires 22 = .ok (.iconst (-1), 1) := by decide +kernel
theorem dX11_wires_23 : decode cX11_wires 23 = .ok (.ireturn, 1) := by decide +kernel
theorem dX11_wires_24 : decode cX11_wires 24 = .ok (.aload_n 0, 1) := by decide +kernel
theorem dX11_wires_25 : decode cX11_wires 25 = .ok (.iload_n 2, 1) := by decide +kernel
theorem dX11_wires_26 : decode cX11_wires 26 = .ok (.iload_n 3, 1) := by decide +kernel
theorem dX11_wires_27 : decode cX11_wires 27 = .ok (.iload 4, 2) := by decide +kernel
theorem dX11_wires_29 : decode cX11_wires 29 = .ok (.aload_n 0, 1) := by decide +kernel
theorem dX11_wires_30 : decode cX11_wires 30 = .ok (.invokevirtual 82, 3) := by decide +kernel
theorem dX11_wires_33 : decode cX11_wires 33 = .ok (.invokevirtual 105, 3) := by decide +kernel
theorem dX11_wires_36 : decode cX11_wires 36 = .ok (.istore 5, 2) := by decide +kernel
theorem dX11_wires_38 : decode cX11_wires 38 = .ok (.iload 5, 2) := by decide +kernel
theorem dX11_wires_40 : decode cX11_wires 40 = .ok (.ifCond .ge 6, 3) := by decide +kernel
theorem dX11_wires_43 : decode cX11_wires 43 = .ok (.iload 5, 2) := by decide +kernel
theorem dX11_wires_45 : decode cX11_wires 45 = .ok (.ireturn, 1) := by decide +kernel
theorem dX11_wires_46 : decode cX11_wires 46 = .ok (.iconst 0, 1) := by decide +kernel
theorem dX11_wires_47 : decode cX11_wires 47 = .ok (.istore 6, 2) := by decide +kernel
theorem dX11_wires_49 : decode cX11_wires 49 = .ok (.iload 6, 2) := by decide +kernel
theorem dX11_wires_51 : decode cX11_wires 51 = .ok (.aload_n 0, 1) := by decide +kernel
theorem dX11_wires_52 : decode cX11_wires 52 = .ok (.invokevirtual 82, 3) := by decide +kernel
theorem dX11_wires_55 : decode cX11_wires 55 = .ok (.if_icmp .ge 48, 3) := by decide +kernel
theorem dX11_wires_58 : decode cX11_wires 58 = .ok (.aload_n 0, 1) := by decide +kernel
theorem dX11_wires_59 : decode cX11_wires 59 = .ok (.getfield 66, 3) := by decide +kernel
theorem dX11_wires_62 : decode cX11_wires 62 = .ok (.bipush 40, 2) := by decide +kernel
theorem dX11_wires_64 : decode cX11_wires 64 = .ok (.iload_n 2, 1) := by decide +kernel
theorem dX11_wires_65 : decode cX11_wires 65 = .ok (.imul, 1) := by decide +kernel
theorem dX11_wires_66 : decode cX11_wires 66 = .ok (.iload 4, 2) := by decide +kernel
theorem dX11_wires_68 : decode cX11_wires 68 = .ok (.iadd, 1) := by decide +kernel
theorem dX11_wires_69 : decode cX11_wires 69 = .ok (.iload 6, 2) := by decide +kernel
theorem dX11_wires_71 : decode cX11_wires 71 = .ok (.iadd, 1) := by decide +kernel
theorem dX11_wires_72 : decode cX11_wires 72 = .ok (.iaload, 1) := by decide +kernel
theorem dX11_wires_73 : decode cX11_wires 73 = .ok (.i2l, 1) := by decide +kernel
theorem dX11_wires_74 : decode cX11_wires 74 = .ok (.lconst 0, 1) := by decide +kernel
theorem dX11_wires_75 : decode cX11_wires 75 = .ok (.iload 6, 2) := by decide +kernel
theorem dX11_wires_77 : decode cX11_wires 77 = .ok (.iload_n 1, 1) := by decide +kernel
theorem dX11_wires_78 : decode cX11_wires 78 = .ok (.if_icmp .ne 7, 3) := by decide +kernel
theorem dX11_wires_81 : decode cX11_wires 81 = .ok (.lconst 0, 1) := by decide +kernel
theorem dX11_wires_82 : decode cX11_wires 82 = .ok (.goto 6, 3) := by decide +kernel
theorem dX11_wires_85 : decode cX11_wires 85 = .ok (.ldc2_w 94, 3) := by decide +kernel
theorem dX11_wires_88 : decode cX11_wires 88 = .ok (.invokestatic 72, 3) := by decide +kernel
theorem dX11_wires_91 : decode cX11_wires 91 = .ok (.ifCond .ne 6, 3) := by decide +kernel
theorem dX11_wires_94 : decode cX11_wires 94 = .ok (.bipush (-2), 2) := by decide +kernel
theorem dX11_wires_96 : decode cX11_wires 96 = .ok (.ireturn, 1) := by decide +kernel
theorem dX11_wires_97 : decode cX11_wires 97 = .ok (.iinc 6 1, 3) := by decide +kernel
theorem dX11_wires_100 : decode cX11_wires 100 = .ok (.goto (-51), 3) := by decide +kernel
theorem dX11_wires_103 : decode cX11_wires 103 = .ok (.iconst 0, 1) := by decide +kernel
theorem dX11_wires_104 : decode cX11_wires 104 = .ok (.istore 6, 2) := by decide +kernel
theorem dX11_wires_106 : decode cX11_wires 106 = .ok (.iconst 0, 1) := by decide +kernel
theorem dX11_wires_107 : decode cX11_wires 107 = .ok (.istore 7, 2) := by decide +kernel
theorem dX11_wires_109 : decode cX11_wires 109 = .ok (.iload 7, 2) := by decide +kernel
theorem dX11_wires_111 : decode cX11_wires 111 = .ok (.aload_n 0, 1) := by decide +kernel
theorem dX11_wires_112 : decode cX11_wires 112 = .ok (.invokevirtual 82, 3) := by decide +kernel
theorem dX11_wires_115 : decode cX11_wires 115 = .ok (.if_icmp .ge 67, 3) := by decide +kernel
theorem dX11_wires_118 : decode cX11_wires 118 = .ok (.aload_n 0, 1) := by decide +kernel
theorem dX11_wires_119 : decode cX11_wires 119 = .ok (.getfield 7, 3) := by decide +kernel
theorem dX11_wires_122 : decode cX11_wires 122 = .ok (.bipush 64, 2) := by decide +kernel
theorem dX11_wires_124 : decode cX11_wires 124 = .ok (.bipush 8, 2) := by decide +kernel
theorem dX11_wires_126 : decode cX11_wires 126 = .ok (.iload_n 1, 1) := by decide +kernel
theorem dX11_wires_127 : decode cX11_wires 127 = .ok (.imul, 1) := by decide +kernel
theorem dX11_wires_128 : decode cX11_wires 128 = .ok (.iadd, 1) := by decide +kernel
theorem dX11_wires_129 : decode cX11_wires 129 = .ok (.iload 7, 2) := by decide +kernel
theorem dX11_wires_131 : decode cX11_wires 131 = .ok (.iadd, 1) := by decide +kernel
theorem dX11_wires_132 : decode cX11_wires 132 = .ok (.aload_n 0, 1) := by decide +kernel
theorem dX11_wires_133 : decode cX11_wires 133 = .ok (.getfield 66, 3) := by decide +kernel
theorem dX11_wires_136 : decode cX11_wires 136 = .ok (.bipush 40, 2) := by decide +kernel
theorem dX11_wires_138 : decode cX11_wires 138 = .ok (.iload_n 2, 1) := by decide +kernel
theorem dX11_wires_139 : decode cX11_wires 139 = .ok (.imul, 1) := by decide +kernel
theorem dX11_wires_140 : decode cX11_wires 140 = .ok (.iload 4, 2) := by decide +kernel
theorem dX11_wires_142 : decode cX11_wires 142 = .ok (.iadd, 1) := by decide +kernel
theorem dX11_wires_143 : decode cX11_wires 143 = .ok (.iload 7, 2) := by decide +kernel
theorem dX11_wires_145 : decode cX11_wires 145 = .ok (.iadd, 1) := by decide +kernel
theorem dX11_wires_146 : decode cX11_wires 146 = .ok (.iaload, 1) := by decide +kernel
theorem dX11_wires_147 : decode cX11_wires 147 = .ok (.iastore, 1) := by decide +kernel
theorem dX11_wires_148 : decode cX11_wires 148 = .ok (.iload 6, 2) := by decide +kernel
theorem dX11_wires_150 : decode cX11_wires 150 = .ok (.aload_n 0, 1) := by decide +kernel
theorem dX11_wires_151 : decode cX11_wires 151 = .ok (.getfield 66, 3) := by decide +kernel
theorem dX11_wires_154 : decode cX11_wires 154 = .ok (.bipush 40, 2) := by decide +kernel
theorem dX11_wires_156 : decode cX11_wires 156 = .ok (.iload_n 2, 1) := by decide +kernel
theorem dX11_wires_157 : decode cX11_wires 157 = .ok (.imul, 1) := by decide +kernel
theorem dX11_wires_158 : decode cX11_wires 158 = .ok (.iload 4, 2) := by decide +kernel
theorem dX11_wires_160 : decode cX11_wires 160 = .ok (.iadd, 1) := by decide +kernel
theorem dX11_wires_161 : decode cX11_wires 161 = .ok (.iload 7, 2) := by decide +kernel
theorem dX11_wires_163 : decode cX11_wires 163 = .ok (.iadd, 1) := by decide +kernel
theorem dX11_wires_164 : decode cX11_wires 164 = .ok (.iaload, 1) := by decide +kernel
theorem dX11_wires_165 : decode cX11_wires 165 = .ok (.ifCond .le 7, 3) := by decide +kernel
theorem dX11_wires_168 : decode cX11_wires 168 = .ok (.iconst 1, 1) := by decide +kernel
theorem dX11_wires_169 : decode cX11_wires 169 = .ok (.goto 4, 3) := by decide +kernel
theorem dX11_wires_172 : decode cX11_wires 172 = .ok (.iconst 0, 1) := by decide +kernel
theorem dX11_wires_173 : decode cX11_wires 173 = .ok (.iadd, 1) := by decide +kernel
theorem dX11_wires_174 : decode cX11_wires 174 = .ok (.istore 6, 2) := by decide +kernel
theorem dX11_wires_176 : decode cX11_wires 176 = .ok (.iinc 7 1, 3) := by decide +kernel
theorem dX11_wires_179 : decode cX11_wires 179 = .ok (.goto (-70), 3) := by decide +kernel
theorem dX11_wires_182 : decode cX11_wires 182 = .ok (.iload 6, 2) := by decide +kernel
theorem dX11_wires_184 : decode cX11_wires 184 = .ok (.ireturn, 1) := by decide +kernel
theorem dX11_pace_0 : decode cX11_pace 0 = .ok (.iload_n 1, 1) := by decide +kernel
theorem dX11_pace_1 : decode cX11_pace 1 = .ok (.i2l, 1) := by decide +kernel
theorem dX11_pace_2 : decode cX11_pace 2 = .ok (.lconst 1, 1) := by decide +kernel
theorem dX11_pace_3 : decode cX11_pace 3 = .ok (.ldc2_w 109, 3) := by decide +kernel
theorem dX11_pace_6 : decode cX11_pace 6 = .ok (.invokestatic 72, 3) := by decide +kernel
theorem dX11_pace_9 : decode cX11_pace 9 = .ok (.ifCond .ne 5, 3) := by decide +kernel
theorem dX11_pace_12 : decode cX11_pace 12 = .ok (.iconst (-1), 1) := by decide +kernel
theorem dX11_pace_13 : decode cX11_pace 13 = .ok (.ireturn, 1) := by decide +kernel
theorem dX11_pace_14 : decode cX11_pace 14 = .ok (.aload_n 0, 1) := by decide +kernel
theorem dX11_pace_15 : decode cX11_pace 15 = .ok (.getfield 7, 3) := by decide +kernel
theorem dX11_pace_18 : decode cX11_pace 18 = .ok (.sipush 128, 3) := by decide +kernel
theorem dX11_pace_21 : decode cX11_pace 21 = .ok (.iaload, 1) := by decide +kernel
theorem dX11_pace_22 : decode cX11_pace 22 = .ok (.istore_n 2, 1) := by decide +kernel
theorem dX11_pace_23 : decode cX11_pace 23 = .ok (.aload_n 0, 1) := by decide +kernel
theorem dX11_pace_24 : decode cX11_pace 24 = .ok (.getfield 7, 3) := by decide +kernel
theorem dX11_pace_27 : decode cX11_pace 27 = .ok (.sipush 128, 3) := by decide +kernel
theorem dX11_pace_30 : decode cX11_pace 30 = .ok (.iload_n 1, 1) := by decide +kernel
theorem dX11_pace_31 : decode cX11_pace 31 = .ok (.iastore, 1) := by decide +kernel
theorem dX11_pace_32 : decode cX11_pace 32 = .ok (.iload_n 2, 1) := by decide +kernel
theorem dX11_pace_33 : decode cX11_pace 33 = .ok (.ireturn, 1) := by decide +kernel
theorem dX11_pull_0 : decode cX11_pull 0 = .ok (.iconst 0, 1) := by decide +kernel
theorem dX11_pull_1 : decode cX11_pull 1 = .ok (.istore 4, 2) := by decide +kernel
theorem dX11_pull_3 : decode cX11_pull 3 = .ok (.iconst 0, 1) := by decide +kernel
theorem dX11_pull_4 : decode cX11_pull 4 = .ok (.istore 5, 2) := by decide +kernel
theorem dX11_pull_6 : decode cX11_pull 6 = .ok (.aload_n 0, 1) := by decide +kernel
theorem dX11_pull_7 : decode cX11_pull 7 = .ok (.iload_n 1, 1) := by decide +kernel
theorem dX11_pull_8 : decode cX11_pull 8 = .ok (.iconst 0, 1) := by decide +kernel
theorem dX11_pull_9 : decode cX11_pull 9 = .ok (.invokevirtual 76, 3) := by decide +kernel
theorem dX11_pull_12 : decode cX11_pull 12 = .ok (.iconst 3, 1) := by decide +kernel
theorem dX11_pull_13 : decode cX11_pull 13 = .ok (.if_icmp .ne 12, 3) := by decide +kernel
theorem dX11_pull_16 : decode cX11_pull 16 = .ok (.aload_n 0, 1) := by decide +kernel
theorem dX11_pull_17 : decode cX11_pull 17 = .ok (.iload_n 1, 1) := by decide +kernel
theorem dX11_pull_18 : decode cX11_pull 18 = .ok (.iconst 4, 1) := by decide +kernel
theorem dX11_pull_19 : decode cX11_pull 19 = .ok (.invokevirtual 76, 3) := by decide +kernel
theorem dX11_pull_22 : decode cX11_pull 22 = .ok (.goto 4, 3) := by decide +kernel
theorem dX11_pull_25 : decode cX11_pull 25 = .ok (.iconst 0, 1) := by decide +kernel
theorem dX11_pull_26 : decode cX11_pull 26 = .ok (.istore 6, 2) := by decide +kernel
theorem dX11_pull_28 : decode cX11_pull 28 = .ok (.iconst 0, 1) := by decide +kernel
theorem dX11_pull_29 : decode cX11_pull 29 = .ok (.istore 7, 2) := by decide +kernel
theorem dX11_pull_31 : decode cX11_pull 31 = .ok (.iload 7, 2) := by decide +kernel
theorem dX11_pull_33 : decode cX11_pull 33 = .ok (.aload_n 0, 1) := by decide +kernel
theorem dX11_pull_34 : decode cX11_pull 34 = .ok (.invokevirtual 82, 3) := by decide +kernel
theorem dX11_pull_37 : decode cX11_pull 37 = .ok (.if_icmp .ge 89, 3) := by decide +kernel
theorem dX11_pull_40 : decode cX11_pull 40 = .ok (.iload 7, 2) := by decide +kernel
theorem dX11_pull_42 : decode cX11_pull 42 = .ok (.iload_n 1, 1) := by decide +kernel
theorem dX11_pull_43 : decode cX11_pull 43 = .ok (.if_icmp .eq 77, 3) := by decide +kernel
theorem dX11_pull_46 : decode cX11_pull 46 = .ok (.aload_n 0, 1) := by decide +kernel
theorem dX11_pull_47 : decode cX11_pull 47 = .ok (.iload 7, 2) := by decide +kernel
theorem dX11_pull_49 : decode cX11_pull 49 = .ok (.invokevirtual 111, 3) := by decide +kernel
theorem dX11_pull_52 : decode cX11_pull 52 = .ok (.ifCond .eq 68, 3) := by decide +kernel
theorem dX11_pull_55 : decode cX11_pull 55 = .ok (.aload_n 0, 1) := by decide +kernel
theorem dX11_pull_56 : decode cX11_pull 56 = .ok (.iload 7, 2) := by decide +kernel
theorem dX11_pull_58 : decode cX11_pull 58 = .ok (.iload_n 1, 1) := by decide +kernel
theorem dX11_pull_59 : decode cX11_pull 59 = .ok (.invokevirtual 96, 3) := by decide +kernel
theorem dX11_pull_62 : decode cX11_pull 62 = .ok (.ifCond .le 58, 3) := by decide +kernel
theorem dX11_pull_65 : decode cX11_pull 65 = .ok (.iload_n 3, 1) := by decide +kernel
theorem dX11_pull_66 : decode cX11_pull 66 = .ok (.ifCond .le 7, 3) := by decide +kernel
theorem dX11_pull_69 : decode cX11_pull 69 = .ok (.iload_n 3, 1) := by decide +kernel
theorem dX11_pull_70 : decode cX11_pull 70 = .ok (.goto 10, 3) := by decide +kernel
theorem dX11_pull_73 : decode cX11_pull 73 = .ok (.aload_n 0, 1) := by decide +kernel
theorem dX11_pull_74 : decode cX11_pull 74 = .ok (.iload 7, 2) := by decide +kernel
theorem dX11_pull_76 : decode cX11_pull 76 = .ok (.iload_n 1, 1) := by decide +kernel
theorem dX11_pull_77 : decode cX11_pull 77 = .ok (.invokevirtual 96, 3) := by decide +kernel
theorem dX11_pull_80 : decode cX11_pull 80 = .ok (.istore 8, 2) := by decide +kernel
theorem dX11_pull_82 : decode cX11_pull 82 = .ok (.iload 5, 2) := by decide +kernel
theorem dX11_pull_84 : decode cX11_pull 84 = .ok (.aload_n 0, 1) := by decide +kernel
theorem dX11_pull_85 : decode cX11_pull 85 = .ok (.getfield 17, 3) := by decide +kernel
theorem dX11_pull_88 : decode cX11_pull 88 = .ok (.bipush 8, 2) := by decide +kernel
theorem dX11_pull_90 : decode cX11_pull 90 = .ok (.iload_n 2, 1) := by decide +kernel
theorem dX11_pull_91 : decode cX11_pull 91 = .ok (.imul, 1) := by decide +kernel
theorem dX11_pull_92 : decode cX11_pull 92 = .ok (.iload 7, 2) := by decide +kernel
theorem dX11_pull_94 : decode cX11_pull 94 = .ok (.iadd, 1) := by decide +kernel
theorem dX11_pull_95 : decode cX11_pull 95 = .ok (.iaload, 1) := by decide +kernel
theorem dX11_pull_96 : decode cX11_pull 96 = .ok (.iload 8, 2) := by decide +kernel
theorem dX11_pull_98 : decode cX11_pull 98 = .ok (.iadd, 1) := by decide +kernel
theorem dX11_pull_99 : decode cX11_pull 99 = .ok (.iload 6, 2) := by decide +kernel
theorem dX11_pull_101 : decode cX11_pull 101 = .ok (.isub, 1) := by decide +kernel
theorem dX11_pull_102 : decode cX11_pull 102 = .ok (.aload_n 0, 1) := by decide +kernel
theorem dX11_pull_103 : decode cX11_pull 103 = .ok (.getfield 17, 3) := by decide +kernel
theorem dX11_pull_106 : decode cX11_pull 106 = .ok (.bipush 8, 2) := by decide +kernel
theorem dX11_pull_108 : decode cX11_pull 108 = .ok (.iload_n 2, 1) := by decide +kernel
theorem dX11_pull_109 : decode cX11_pull 109 = .ok (.imul, 1) := by decide +kernel
theorem dX11_pull_110 : decode cX11_pull 110 = .ok (.iload_n 1, 1) := by decide +kernel
theorem dX11_pull_111 : decode cX11_pull 111 = .ok (.iadd, 1) := by decide +kernel
theorem dX11_pull_112 : decode cX11_pull 112 = .ok (.iaload, 1) := by decide +kernel
theorem dX11_pull_113 : decode cX11_pull 113 = .ok (.isub, 1) := by decide +kernel
theorem dX11_pull_114 : decode cX11_pull 114 = .ok (.iadd, 1) := by decide +kernel
theorem dX11_pull_115 : decode cX11_pull 115 = .ok (.istore 5, 2) := by decide +kernel
theorem dX11_pull_117 : decode cX11_pull 117 = .ok (.iinc 4 1, 3) := by decide +kernel
theorem dX11_pull_120 : decode cX11_pull 120 = .ok (.iinc 7 1, 3) := by decide +kernel
theorem dX11_pull_123 : decode cX11_pull 123 = .ok (.goto (-92), 3) := by decide +kernel
theorem dX11_pull_126 : decode cX11_pull 126 = .ok (.iload 4, 2) := by decide +kernel
theorem dX11_pull_128 : decode cX11_pull 128 = .ok (.ifCond .ne 7, 3) := by decide +kernel
theorem dX11_pull_131 : decode cX11_pull 131 = .ok (.iconst 0, 1) := by decide +kernel
theorem dX11_pull_132 : decode cX11_pull 132 = .ok (.goto 8, 3) := by decide +kernel
theorem dX11_pull_135 : decode cX11_pull 135 = .ok (.iload 5, 2) := by decide +kernel
theorem dX11_pull_137 : decode cX11_pull 137 = .ok (.iload 4, 2) := by decide +kernel
theorem dX11_pull_139 : decode cX11_pull 139 = .ok (.idiv, 1) := by decide +kernel
theorem dX11_pull_140 : decode cX11_pull 140 = .ok (.ireturn, 1) := by decide +kernel
theorem dX11_laysBeats_0 : decode cX11_laysBeats 0 = .ok (.aload_n 0, 1) := by decide +kernel
theorem dX11_laysBeats_1 : decode cX11_laysBeats 1 = .ok (.getfield 7, 3) := by decide +kernel
theorem dX11_laysBeats_4 : decode cX11_laysBeats 4 = .ok (.sipush 128, 3) := by decide +kernel
theorem dX11_laysBeats_7 : decode cX11_laysBeats 7 = .ok (.iaload, 1) := by decide +kernel
theorem dX11_laysBeats_8 : decode cX11_laysBeats 8 = .ok (.istore_n 3, 1) := by decide +kernel
theorem dX11_laysBeats_9 : decode cX11_laysBeats 9 = .ok (.iconst 0, 1) := by decide +kernel
theorem dX11_laysBeats_10 : decode cX11_laysBeats 10 = .ok (.istore 4, 2) := by decide +kernel
theorem dX11_laysBeats_12 : decode cX11_laysBeats 12 = .ok (.iload 4, 2) := by decide +kernel
theorem dX11_laysBeats_14 : decode cX11_laysBeats 14 = .ok (.aload_n 0, 1) := by decide +kernel
theorem dX11_laysBeats_15 : decode cX11_laysBeats 15 = .ok (.invokevirtual 82, 3) := by decide +kernel
theorem dX11_laysBeats_18 : decode cX11_laysBeats 18 = .ok (.if_icmp .ge 39, 3) := by decide +kernel
theorem dX11_laysBeats_21 : decode cX11_laysBeats 21 = .ok (.aload_n 0, 1) := by decide +kernel
theorem dX11_laysBeats_22 : decode cX11_laysBeats 22 = .ok (.getfield 17, 3) := by decide +kernel
theorem dX11_laysBeats_25 : decode cX11_laysBeats 25 = .ok (.iload 4, 2) := by decide +kernel
theorem dX11_laysBeats_27 : decode cX11_laysBeats 27 = .ok (.aload_n 0, 1) := by decide +kernel
theorem dX11_laysBeats_28 : decode cX11_laysBeats 28 = .ok (.iload 4, 2) := by decide +kernel
theorem dX11_laysBeats_30 : decode cX11_laysBeats 30 = .ok (.iconst 0, 1) := by decide +kernel
theorem dX11_laysBeats_31 : decode cX11_laysBeats 31 = .ok (.invokevirtual 76, 3) := by decide +kernel
theorem dX11_laysBeats_34 : decode cX11_laysBeats 34 = .ok (.iconst 2, 1) := by decide +kernel
theorem dX11_laysBeats_35 : decode cX11_laysBeats 35 = .ok (.if_icmp .ne 14, 3) := by decide +kernel
theorem dX11_laysBeats_38 : decode cX11_laysBeats 38 = .ok (.aload_n 0, 1) := by decide +kernel
theorem dX11_laysBeats_39 : decode cX11_laysBeats 39 = .ok (.iload 4, 2) := by decide +kernel
theorem dX11_laysBeats_41 : decode cX11_laysBeats 41 = .ok (.iconst 3, 1) := by decide +kernel
theorem dX11_laysBeats_42 : decode cX11_laysBeats 42 = .ok (.invokevirtual 76, 3) := by decide +kernel
theorem dX11_laysBeats_45 : decode cX11_laysBeats 45 = .ok (.ineg, 1) := by decide +kernel
theorem dX11_laysBeats_46 : decode cX11_laysBeats 46 = .ok (.goto 4, 3) := by decide +kernel
theorem dX11_laysBeats_49 : decode cX11_laysBeats 49 = .ok (.iconst 0, 1) := by decide +kernel
theorem dX11_laysBeats_50 : decode cX11_laysBeats 50 = .ok (.iastore, 1) := by decide +kernel
theorem dX11_laysBeats_51 : decode cX11_laysBeats 51 = .ok (.iinc 4 1, 3) := by decide +kernel
theorem dX11_laysBeats_54 : decode cX11_laysBeats 54 = .ok (.goto (-42), 3) := by decide +kernel
theorem dX11_laysBeats_57 : decode cX11_laysBeats 57 = .ok (.iconst 1, 1) := by decide +kernel
theorem dX11_laysBeats_58 : decode cX11_laysBeats 58 = .ok (.istore 4, 2) := by decide +kernel
theorem dX11_laysBeats_60 : decode cX11_laysBeats 60 = .ok (.iload 4, 2) := by decide +kernel
theorem dX11_laysBeats_62 : decode cX11_laysBeats 62 = .ok (.iload_n 1, 1) := by decide +kernel
theorem dX11_laysBeats_63 : decode cX11_laysBeats 63 = .ok (.if_icmp .gt 157, 3) := by decide +kernel
theorem dX11_laysBeats_66 : decode cX11_laysBeats 66 = .ok (.iconst 0, 1) := by decide +kernel
theorem dX11_laysBeats_67 : decode cX11_laysBeats 67 = .ok (.istore 5, 2) := by decide +kernel
theorem dX11_laysBeats_69 : decode cX11_laysBeats 69 = .ok (.iload 5, 2) := by decide +kernel
theorem dX11_laysBeats_71 : decode cX11_laysBeats 71 = .ok (.aload_n 0, 1) := by decide +kernel
theorem dX11_laysBeats_72 : decode cX11_laysBeats 72 = .ok (.invokevirtual 82, 3) := by decide +kernel
theorem dX11_laysBeats_75 : decode cX11_laysBeats 75 = .ok (.if_icmp .ge 139, 3) := by decide +kernel
theorem dX11_laysBeats_78 : decode cX11_laysBeats 78 = .ok (.aload_n 0, 1) := by decide +kernel
theorem dX11_laysBeats_79 : decode cX11_laysBeats 79 = .ok (.iload 5, 2) := by decide +kernel
theorem dX11_laysBeats_81 : decode cX11_laysBeats 81 = .ok (.iconst 0, 1) := by decide +kernel
theorem dX11_laysBeats_82 : decode cX11_laysBeats 82 = .ok (.invokevirtual 76, 3) := by decide +kernel
theorem dX11_laysBeats_85 : decode cX11_laysBeats 85 = .ok (.istore 6, 2) := by decide +kernel
theorem dX11_laysBeats_87 : decode cX11_laysBeats 87 = .ok (.aload_n 0, 1) := by decide +kernel
theorem dX11_laysBeats_88 : decode cX11_laysBeats 88 = .ok (.getfield 17, 3) := by decide +kernel
theorem dX11_laysBeats_91 : decode cX11_laysBeats 91 = .ok (.bipush 8, 2) := by decide +kernel
theorem dX11_laysBeats_93 : decode cX11_laysBeats 93 = .ok (.iload 4, 2) := by decide +kernel
theorem dX11_laysBeats_95 : decode cX11_laysBeats 95 = .ok (.iconst 1, 1) := by decide +kernel
theorem dX11_laysBeats_96 : decode cX11_laysBeats 96 = .ok (.isub, 1) := by decide +kernel
theorem dX11_laysBeats_97 : decode cX11_laysBeats 97 = .ok (.imul, 1) := by decide +kernel
theorem dX11_laysBeats_98 : decode cX11_laysBeats 98 = .ok (.iload 5, 2) := by decide +kernel
theorem dX11_laysBeats_100 : decode cX11_laysBeats 100 = .ok (.iadd, 1) := by decide +kernel
theorem dX11_laysBeats_101 : decode cX11_laysBeats 101 = .ok (.iaload, 1) := by decide +kernel
theorem dX11_laysBeats_102 : decode cX11_laysBeats 102 = .ok (.istore 7, 2) := by decide +kernel
theorem dX11_laysBeats_104 : decode cX11_laysBeats 104 = .ok (.iload 7, 2) := by decide +kernel
theorem dX11_laysBeats_106 : decode cX11_laysBeats 106 = .ok (.iload_n 3, 1) := by decide +kernel
theorem dX11_laysBeats_107 : decode cX11_laysBeats 107 = .ok (.iadd, 1) := by decide +kernel
theorem dX11_laysBeats_108 : decode cX11_laysBeats 108 = .ok (.aload_n 0, 1) := by decide +kernel
theorem dX11_laysBeats_109 : decode cX11_laysBeats 109 = .ok (.iload 5, 2) := by decide +kernel
theorem dX11_laysBeats_111 : decode cX11_laysBeats 111 = .ok (.iconst 1, 1) := by decide +kernel
theorem dX11_laysBeats_112 : decode cX11_laysBeats 112 = .ok (.invokevirtual 76, 3) := by decide +kernel
theorem dX11_laysBeats_115 : decode cX11_laysBeats 115 = .ok (.iadd, 1) := by decide +kernel
theorem dX11_laysBeats_116 : decode cX11_laysBeats 116 = .ok (.aload_n 0, 1) := by decide +kernel
theorem dX11_laysBeats_117 : decode cX11_laysBeats 117 = .ok (.iload 5, 2) := by decide +kernel
theorem dX11_laysBeats_119 : decode cX11_laysBeats 119 = .ok (.iconst 2, 1) := by decide +kernel
theorem dX11_laysBeats_120 : decode cX11_laysBeats 120 = .ok (.invokevirtual 76, 3) := by decide +kernel
theorem dX11_laysBeats_123 : decode cX11_laysBeats 123 = .ok (.aload_n 0, 1) := by decide +kernel
theorem dX11_laysBeats_124 : decode cX11_laysBeats 124 = .ok (.iload 5, 2) := by decide +kernel
theorem dX11_laysBeats_126 : decode cX11_laysBeats 126 = .ok (.iload 4, 2) := by decide +kernel
theorem dX11_laysBeats_128 : decode cX11_laysBeats 128 = .ok (.iconst 1, 1) := by decide +kernel
theorem dX11_laysBeats_129 : decode cX11_laysBeats 129 = .ok (.isub, 1) := by decide +kernel
theorem dX11_laysBeats_130 : decode cX11_laysBeats 130 = .ok (.iload_n 2, 1) := by decide +kernel
theorem dX11_laysBeats_131 : decode cX11_laysBeats 131 = .ok (.invokevirtual 114, 3) := by decide +kernel
theorem dX11_laysBeats_134 : decode cX11_laysBeats 134 = .ok (.imul, 1) := by decide +kernel
theorem dX11_laysBeats_135 : decode cX11_laysBeats 135 = .ok (.bipush 100, 2) := by decide +kernel
theorem dX11_laysBeats_137 : decode cX11_laysBeats 137 = .ok (.idiv, 1) := by decide +kernel
theorem dX11_laysBeats_138 : decode cX11_laysBeats 138 = .ok (.iadd, 1) := by decide +kernel
theorem dX11_laysBeats_139 : decode cX11_laysBeats 139 = .ok (.istore 8, 2) := by decide +kernel
theorem dX11_laysBeats_141 : decode cX11_laysBeats 141 = .ok (.iload 8, 2) := by decide +kernel
theorem dX11_laysBeats_143 : decode cX11_laysBeats 143 = .ok (.iload 7, 2) := by decide +kernel
theorem dX11_laysBeats_145 : decode cX11_laysBeats 145 = .ok (.if_icmp .le 8, 3) := by decide +kernel
theorem dX11_laysBeats_148 : decode cX11_laysBeats 148 = .ok (.iload 8, 2) := by decide +kernel
theorem dX11_laysBeats_150 : decode cX11_laysBeats 150 = .ok (.goto 7, 3) := by decide +kernel
theorem dX11_laysBeats_153 : decode cX11_laysBeats 153 = .ok (.iload 7, 2) := by decide +kernel
theorem dX11_laysBeats_155 : decode cX11_laysBeats 155 = .ok (.iconst 1, 1) := by decide +kernel
theorem dX11_laysBeats_156 : decode cX11_laysBeats 156 = .ok (.iadd, 1) := by decide +kernel
theorem dX11_laysBeats_157 : decode cX11_laysBeats 157 = .ok (.istore 8, 2) := by decide +kernel
theorem dX11_laysBeats_159 : decode cX11_laysBeats 159 = .ok (.aload_n 0, 1) := by decide +kernel
theorem dX11_laysBeats_160 : decode cX11_laysBeats 160 = .ok (.getfield 17, 3) := by decide +kernel
theorem dX11_laysBeats_163 : decode cX11_laysBeats 163 = .ok (.bipush 8, 2) := by decide +kernel
theorem dX11_laysBeats_165 : decode cX11_laysBeats 165 = .ok (.iload 4, 2) := by decide +kernel
theorem dX11_laysBeats_167 : decode cX11_laysBeats 167 = .ok (.imul, 1) := by decide +kernel
theorem dX11_laysBeats_168 : decode cX11_laysBeats 168 = .ok (.iload 5, 2) := by decide +kernel
theorem dX11_laysBeats_170 : decode cX11_laysBeats 170 = .ok (.iadd, 1) := by decide +kernel
theorem dX11_laysBeats_171 : decode cX11_laysBeats 171 = .ok (.iload 6, 2) := by decide +kernel
theorem dX11_laysBeats_173 : decode cX11_laysBeats 173 = .ok (.iconst 1, 1) := by decide +kernel
theorem dX11_laysBeats_174 : decode cX11_laysBeats 174 = .ok (.if_icmp .ne 10, 3) := by decide +kernel
theorem dX11_laysBeats_177 : decode cX11_laysBeats 177 = .ok (.iload 4, 2) := by decide +kernel
theorem dX11_laysBeats_179 : decode cX11_laysBeats 179 = .ok (.iload_n 3, 1) := by decide +kernel
theorem dX11_laysBeats_180 : decode cX11_laysBeats 180 = .ok (.imul, 1) := by decide +kernel
theorem dX11_laysBeats_181 : decode cX11_laysBeats 181 = .ok (.goto 26, 3) := by decide +kernel
theorem dX11_laysBeats_184 : decode cX11_laysBeats 184 = .ok (.iload 6, 2) := by decide +kernel
theorem dX11_laysBeats_186 : decode cX11_laysBeats 186 = .ok (.iconst 2, 1) := by decide +kernel
theorem dX11_laysBeats_187 : decode cX11_laysBeats 187 = .ok (.if_icmp .ne 18, 3) := by decide +kernel
theorem dX11_laysBeats_190 : decode cX11_laysBeats 190 = .ok (.iload 4, 2) := by decide +kernel
theorem dX11_laysBeats_192 : decode cX11_laysBeats 192 = .ok (.iload_n 3, 1) := by decide +kernel
theorem dX11_laysBeats_193 : decode cX11_laysBeats 193 = .ok (.imul, 1) := by decide +kernel
theorem dX11_laysBeats_194 : decode cX11_laysBeats 194 = .ok (.aload_n 0, 1) := by decide +kernel
theorem dX11_laysBeats_195 : decode cX11_laysBeats 195 = .ok (.iload 5, 2) := by decide +kernel
theorem dX11_laysBeats_197 : decode cX11_laysBeats 197 = .ok (.iconst 3, 1) := by decide +kernel
theorem dX11_laysBeats_198 : decode cX11_laysBeats 198 = .ok (.invokevirtual 76, 3) := by decide +kernel
theorem dX11_laysBeats_201 : decode cX11_laysBeats 201 = .ok (.isub, 1) := by decide +kernel
theorem dX11_laysBeats_202 : decode cX11_laysBeats 202 = .ok (.goto 5, 3) := by decide +kernel
theorem dX11_laysBeats_205 : decode cX11_laysBeats 205 = .ok (.iload 8, 2) := by decide +kernel
theorem dX11_laysBeats_207 : decode cX11_laysBeats 207 = .ok (.iastore, 1) := by decide +kernel
theorem dX11_laysBeats_208 : decode cX11_laysBeats 208 = .ok (.iinc 5 1, 3) := by decide +kernel
theorem dX11_laysBeats_211 : decode cX11_laysBeats 211 = .ok (.goto (-142), 3) := by decide +kernel
theorem dX11_laysBeats_214 : decode cX11_laysBeats 214 = .ok (.iinc 4 1, 3) := by decide +kernel
theorem dX11_laysBeats_217 : decode cX11_laysBeats 217 = .ok (.goto (-157), 3) := by decide +kernel
theorem dX11_laysBeats_220 : decode cX11_laysBeats 220 = .ok (.return_, 1) := by decide +kernel
theorem dX11_time_0 : decode cX11_time 0 = .ok (.aload_n 0, 1) := by decide +kernel
theorem dX11_time_1 : decode cX11_time 1 = .ok (.iload_n 1, 1) := by decide +kernel
theorem dX11_time_2 : decode cX11_time 2 = .ok (.invokevirtual 86, 3) := by decide +kernel
theorem dX11_time_5 : decode cX11_time 5 = .ok (.ifCond .eq 15, 3) := by decide +kernel
theorem dX11_time_8 : decode cX11_time 8 = .ok (.iload_n 2, 1) := by decide +kernel
theorem dX11_time_9 : decode cX11_time 9 = .ok (.i2l, 1) := by decide +kernel
theorem dX11_time_10 : decode cX11_time 10 = .ok (.lconst 0, 1) := by decide +kernel
theorem dX11_time_11 : decode cX11_time 11 = .ok (.ldc2_w 118, 3) := by decide +kernel
theorem dX11_time_14 : decode cX11_time 14 = .ok (.invokestatic 72, 3) := by decide +kernel
theorem dX11_time_17 : decode cX11_time 17 = .ok (.ifCond .ne 6, 3) := by decide +kernel
theorem dX11_time_20 : decode cX11_time 20 = .ok (.ldc 120, 2) := by decide +kernel
theorem dX11_time_22 : decode cX11_time 22 = .ok (.ireturn, 1) := by decide +kernel
theorem dX11_time_23 : decode cX11_time 23 = .ok (.aload_n 0, 1) := by decide +kernel
theorem dX11_time_24 : decode cX11_time 24 = .ok (.iload_n 1, 1) := by decide +kernel
theorem dX11_time_25 : decode cX11_time 25 = .ok (.invokevirtual 111, 3) := by decide +kernel
theorem dX11_time_28 : decode cX11_time 28 = .ok (.ifCond .ne 6, 3) := by decide +kernel
theorem dX11_time_31 : decode cX11_time 31 = .ok (.ldc 121, 2) := by decide +kernel
theorem dX11_time_33 : decode cX11_time 33 = .ok (.ireturn, 1) := by decide +kernel
theorem dX11_time_34 : decode cX11_time 34 = .ok (.aload_n 0, 1) := by decide +kernel
theorem dX11_time_35 : decode cX11_time 35 = .ok (.iload_n 2, 1) := by decide +kernel
theorem dX11_time_36 : decode cX11_time 36 = .ok (.iconst 0, 1) := by decide +kernel
theorem dX11_time_37 : decode cX11_time 37 = .ok (.invokevirtual 122, 3) := by decide +kernel
theorem dX11_time_40 : decode cX11_time 40 = .ok (.aload_n 0, 1) := by decide +kernel
theorem dX11_time_41 : decode cX11_time 41 = .ok (.getfield 17, 3) := by decide +kernel
theorem dX11_time_44 : decode cX11_time 44 = .ok (.bipush 8, 2) := by decide +kernel
theorem dX11_time_46 : decode cX11_time 46 = .ok (.iload_n 2, 1) := by decide +kernel
theorem dX11_time_47 : decode cX11_time 47 = .ok (.imul, 1) := by decide +kernel
theorem dX11_time_48 : decode cX11_time 48 = .ok (.iload_n 1, 1) := by decide +kernel
theorem dX11_time_49 : decode cX11_time 49 = .ok (.iadd, 1) := by decide +kernel
theorem dX11_time_50 : decode cX11_time 50 = .ok (.iaload, 1) := by decide +kernel
theorem dX11_time_51 : decode cX11_time 51 = .ok (.ireturn, 1) := by decide +kernel
theorem dX11_singers_0 : decode cX11_singers 0 = .ok (.iconst 0, 1) := by decide +kernel
theorem dX11_singers_1 : decode cX11_singers 1 = .ok (.istore_n 1, 1) := by decide +kernel
theorem dX11_singers_2 : decode cX11_singers 2 = .ok (.iconst 0, 1) := by decide +kernel
theorem dX11_singers_3 : decode cX11_singers 3 = .ok (.istore_n 2, 1) := by decide +kernel
theorem dX11_singers_4 : decode cX11_singers 4 = .ok (.iload_n 2, 1) := by decide +kernel
theorem dX11_singers_5 : decode cX11_singers 5 = .ok (.aload_n 0, 1) := by decide +kernel
theorem dX11_singers_6 : decode cX11_singers 6 = .ok (.invokevirtual 82, 3) := by decide +kernel
theorem dX11_singers_9 : decode cX11_singers 9 = .ok (.if_icmp .ge 27, 3) := by decide +kernel
theorem dX11_singers_12 : decode cX11_singers 12 = .ok (.iload_n 1, 1) := by decide +kernel
theorem dX11_singers_13 : decode cX11_singers 13 = .ok (.aload_n 0, 1) := by decide +kernel
theorem dX11_singers_14 : decode cX11_singers 14 = .ok (.iload_n 2, 1) := by decide +kernel
theorem dX11_singers_15 : decode cX11_singers 15 = .ok (.invokevirtual 111, 3) := by decide +kernel
theorem dX11_singers_18 : decode cX11_singers 18 = .ok (.ifCond .eq 9, 3) := by decide +kernel
theorem dX11_singers_21 : decode cX11_singers 21 = .ok (.iconst 1, 1) := by decide +kernel
theorem dX11_singers_22 : decode cX11_singers 22 = .ok (.iload_n 2, 1) := by decide +kernel
theorem dX11_singers_23 : decode cX11_singers 23 = .ok (.ishl, 1) := by decide +kernel
theorem dX11_singers_24 : decode cX11_singers 24 = .ok (.goto 4, 3) := by decide +kernel
theorem dX11_singers_27 : decode cX11_singers 27 = .ok (.iconst 0, 1) := by decide +kernel
theorem dX11_singers_28 : decode cX11_singers 28 = .ok (.ior, 1) := by decide +kernel
theorem dX11_singers_29 : decode cX11_singers 29 = .ok (.istore_n 1, 1) := by decide +kernel
theorem dX11_singers_30 : decode cX11_singers 30 = .ok (.iinc 2 1, 3) := by decide +kernel
theorem dX11_singers_33 : decode cX11_singers 33 = .ok (.goto (-29), 3) := by decide +kernel
theorem dX11_singers_36 : decode cX11_singers 36 = .ok (.iload_n 1, 1) := by decide +kernel
theorem dX11_singers_37 : decode cX11_singers 37 = .ok (.ireturn, 1) := by decide +kernel
theorem dX11_size_0 : decode cX11_size 0 = .ok (.iconst 0, 1) := by decide +kernel
theorem dX11_size_1 : decode cX11_size 1 = .ok (.istore_n 1, 1) := by decide +kernel
theorem dX11_size_2 : decode cX11_size 2 = .ok (.iconst 0, 1) := by decide +kernel
theorem dX11_size_3 : decode cX11_size 3 = .ok (.istore_n 2, 1) := by decide +kernel
theorem dX11_size_4 : decode cX11_size 4 = .ok (.iload_n 2, 1) := by decide +kernel
theorem dX11_size_5 : decode cX11_size 5 = .ok (.bipush 8, 2) := by decide +kernel
theorem dX11_size_7 : decode cX11_size 7 = .ok (.if_icmp .ge 17, 3) := by decide +kernel
theorem dX11_size_10 : decode cX11_size 10 = .ok (.iload_n 1, 1) := by decide +kernel
theorem dX11_size_11 : decode cX11_size 11 = .ok (.iload_n 0, 1) := by decide +kernel
theorem dX11_size_12 : decode cX11_size 12 = .ok (.iload_n 2, 1) := by decide +kernel
theorem dX11_size_13 : decode cX11_size 13 = .ok (.ishr, 1) := by decide +kernel
theorem dX11_size_14 : decode cX11_size 14 = .ok (.iconst 1, 1) := by decide +kernel
theorem dX11_size_15 : decode cX11_size 15 = .ok (.iand, 1) := by decide +kernel
theorem dX11_size_16 : decode cX11_size 16 = .ok (.iadd, 1) := by decide +kernel
theorem dX11_size_17 : decode cX11_size 17 = .ok (.istore_n 1, 1) := by decide +kernel
theorem dX11_size_18 : decode cX11_size 18 = .ok (.iinc 2 1, 3) := by decide +kernel
theorem dX11_size_21 : decode cX11_size 21 = .ok (.goto (-17), 3) := by decide +kernel
theorem dX11_size_24 : decode cX11_size 24 = .ok (.iload_n 1, 1) := by decide +kernel
theorem dX11_size_25 : decode cX11_size 25 = .ok (.ireturn, 1) := by decide +kernel
theorem dX11_paceBy_0 : decode cX11_paceBy 0 = .ok (.aload_n 0, 1) := by decide +kernel
theorem dX11_paceBy_1 : decode cX11_paceBy 1 = .ok (.iload_n 1, 1) := by decide +kernel
theorem dX11_paceBy_2 : decode cX11_paceBy 2 = .ok (.iload_n 2, 1) := by decide +kernel
theorem dX11_paceBy_3 : decode cX11_paceBy 3 = .ok (.invokevirtual 122, 3) := by decide +kernel
theorem dX11_paceBy_6 : decode cX11_paceBy 6 = .ok (.aload_n 0, 1) := by decide +kernel
theorem dX11_paceBy_7 : decode cX11_paceBy 7 = .ok (.invokevirtual 126, 3) := by decide +kernel
theorem dX11_paceBy_10 : decode cX11_paceBy 10 = .ok (.istore_n 3, 1) := by decide +kernel
theorem dX11_paceBy_11 : decode cX11_paceBy 11 = .ok (.iconst 0, 1) := by decide +kernel
theorem dX11_paceBy_12 : decode cX11_paceBy 12 = .ok (.istore 4, 2) := by decide +kernel
theorem dX11_paceBy_14 : decode cX11_paceBy 14 = .ok (.iconst 0, 1) := by decide +kernel
theorem dX11_paceBy_15 : decode cX11_paceBy 15 = .ok (.istore 5, 2) := by decide +kernel
theorem dX11_paceBy_17 : decode cX11_paceBy 17 = .ok (.iload 5, 2) := by decide +kernel
theorem dX11_paceBy_19 : decode cX11_paceBy 19 = .ok (.aload_n 0, 1) := by decide +kernel
theorem dX11_paceBy_20 : decode cX11_paceBy 20 = .ok (.invokevirtual 82, 3) := by decide +kernel
theorem dX11_paceBy_23 : decode cX11_paceBy 23 = .ok (.if_icmp .ge 55, 3) := by decide +kernel
theorem dX11_paceBy_26 : decode cX11_paceBy 26 = .ok (.iload 4, 2) := by decide +kernel
theorem dX11_paceBy_28 : decode cX11_paceBy 28 = .ok (.iload_n 3, 1) := by decide +kernel
theorem dX11_paceBy_29 : decode cX11_paceBy 29 = .ok (.iload 5, 2) := by decide +kernel
theorem dX11_paceBy_31 : decode cX11_paceBy 31 = .ok (.ishr, 1) := by decide +kernel
theorem dX11_paceBy_32 : decode cX11_paceBy 32 = .ok (.iconst 1, 1) := by decide +kernel
theorem dX11_paceBy_33 : decode cX11_paceBy 33 = .ok (.iand, 1) := by decide +kernel
theorem dX11_paceBy_34 : decode cX11_paceBy 34 = .ok (.iconst 1, 1) := by decide +kernel
theorem dX11_paceBy_35 : decode cX11_paceBy 35 = .ok (.if_icmp .ne 33, 3) := by decide +kernel
theorem dX11_paceBy_38 : decode cX11_paceBy 38 = .ok (.aload_n 0, 1) := by decide +kernel
theorem dX11_paceBy_39 : decode cX11_paceBy 39 = .ok (.getfield 17, 3) := by decide +kernel
theorem dX11_paceBy_42 : decode cX11_paceBy 42 = .ok (.bipush 8, 2) := by decide +kernel
theorem dX11_paceBy_44 : decode cX11_paceBy 44 = .ok (.iload_n 1, 1) := by decide +kernel
theorem dX11_paceBy_45 : decode cX11_paceBy 45 = .ok (.imul, 1) := by decide +kernel
theorem dX11_paceBy_46 : decode cX11_paceBy 46 = .ok (.iload 5, 2) := by decide +kernel
theorem dX11_paceBy_48 : decode cX11_paceBy 48 = .ok (.iadd, 1) := by decide +kernel
theorem dX11_paceBy_49 : decode cX11_paceBy 49 = .ok (.iaload, 1) := by decide +kernel
theorem dX11_paceBy_50 : decode cX11_paceBy 50 = .ok (.aload_n 0, 1) := by decide +kernel
theorem dX11_paceBy_51 : decode cX11_paceBy 51 = .ok (.getfield 17, 3) := by decide +kernel
theorem dX11_paceBy_54 : decode cX11_paceBy 54 = .ok (.bipush 8, 2) := by decide +kernel
theorem dX11_paceBy_56 : decode cX11_paceBy 56 = .ok (.iload_n 1, 1) := by decide +kernel
theorem dX11_paceBy_57 : decode cX11_paceBy 57 = .ok (.iconst 1, 1) := by decide +kernel
theorem dX11_paceBy_58 : decode cX11_paceBy 58 = .ok (.isub, 1) := by decide +kernel
theorem dX11_paceBy_59 : decode cX11_paceBy 59 = .ok (.imul, 1) := by decide +kernel
theorem dX11_paceBy_60 : decode cX11_paceBy 60 = .ok (.iload 5, 2) := by decide +kernel
theorem dX11_paceBy_62 : decode cX11_paceBy 62 = .ok (.iadd, 1) := by decide +kernel
theorem dX11_paceBy_63 : decode cX11_paceBy 63 = .ok (.iaload, 1) := by decide +kernel
theorem dX11_paceBy_64 : decode cX11_paceBy 64 = .ok (.isub, 1) := by decide +kernel
theorem dX11_paceBy_65 : decode cX11_paceBy 65 = .ok (.goto 4, 3) := by decide +kernel
theorem dX11_paceBy_68 : decode cX11_paceBy 68 = .ok (.iconst 0, 1) := by decide +kernel
theorem dX11_paceBy_69 : decode cX11_paceBy 69 = .ok (.iadd, 1) := by decide +kernel
theorem dX11_paceBy_70 : decode cX11_paceBy 70 = .ok (.istore 4, 2) := by decide +kernel
theorem dX11_paceBy_72 : decode cX11_paceBy 72 = .ok (.iinc 5 1, 3) := by decide +kernel
theorem dX11_paceBy_75 : decode cX11_paceBy 75 = .ok (.goto (-58), 3) := by decide +kernel
theorem dX11_paceBy_78 : decode cX11_paceBy 78 = .ok (.iload 4, 2) := by decide +kernel
theorem dX11_paceBy_80 : decode cX11_paceBy 80 = .ok (.iload_n 3, 1) := by decide +kernel
theorem dX11_paceBy_81 : decode cX11_paceBy 81 = .ok (.invokestatic 129, 3) := by decide +kernel
theorem dX11_paceBy_84 : decode cX11_paceBy 84 = .ok (.idiv, 1) := by decide +kernel
theorem dX11_paceBy_85 : decode cX11_paceBy 85 = .ok (.ireturn, 1) := by decide +kernel
theorem dX11_paceAt_0 : decode cX11_paceAt 0 = .ok (.iload_n 1, 1) := by decide +kernel
theorem dX11_paceAt_1 : decode cX11_paceAt 1 = .ok (.i2l, 1) := by decide +kernel
theorem dX11_paceAt_2 : decode cX11_paceAt 2 = .ok (.lconst 1, 1) := by decide +kernel
theorem dX11_paceAt_3 : decode cX11_paceAt 3 = .ok (.ldc2_w 118, 3) := by decide +kernel
theorem dX11_paceAt_6 : decode cX11_paceAt 6 = .ok (.invokestatic 72, 3) := by decide +kernel
theorem dX11_paceAt_9 : decode cX11_paceAt 9 = .ok (.ifCond .ne 5, 3) := by decide +kernel
theorem dX11_paceAt_12 : decode cX11_paceAt 12 = .ok (.iconst (-1), 1) := by decide +kernel
theorem dX11_paceAt_13 : decode cX11_paceAt 13 = .ok (.ireturn, 1) := by decide +kernel
theorem dX11_paceAt_14 : decode cX11_paceAt 14 = .ok (.aload_n 0, 1) := by decide +kernel
theorem dX11_paceAt_15 : decode cX11_paceAt 15 = .ok (.invokevirtual 126, 3) := by decide +kernel
theorem dX11_paceAt_18 : decode cX11_paceAt 18 = .ok (.ifCond .ne 8, 3) := by decide +kernel
theorem dX11_paceAt_21 : decode cX11_paceAt 21 = .ok (.bipush (-4), 2) := by decide +kernel
theorem dX11_paceAt_23 : decode cX11_paceAt 23 = .ok (.goto 9, 3) := by decide +kernel
theorem dX11_paceAt_26 : decode cX11_paceAt 26 = .ok (.aload_n 0, 1) := by decide +kernel
theorem dX11_paceAt_27 : decode cX11_paceAt 27 = .ok (.iload_n 1, 1) := by decide +kernel
theorem dX11_paceAt_28 : decode cX11_paceAt 28 = .ok (.iconst 0, 1) := by decide +kernel
theorem dX11_paceAt_29 : decode cX11_paceAt 29 = .ok (.invokevirtual 132, 3) := by decide +kernel
theorem dX11_paceAt_32 : decode cX11_paceAt 32 = .ok (.ireturn, 1) := by decide +kernel
theorem dX11_slows_0 : decode cX11_slows 0 = .ok (.iload_n 1, 1) := by decide +kernel
theorem dX11_slows_1 : decode cX11_slows 1 = .ok (.i2l, 1) := by decide +kernel
theorem dX11_slows_2 : decode cX11_slows 2 = .ok (.lconst 1, 1) := by decide +kernel
theorem dX11_slows_3 : decode cX11_slows 3 = .ok (.ldc2_w 118, 3) := by decide +kernel
theorem dX11_slows_6 : decode cX11_slows 6 = .ok (.invokestatic 72, 3) := by decide +kernel
theorem dX11_slows_9 : decode cX11_slows 9 = .ok (.ifCond .eq 15, 3) := by decide +kernel
theorem dX11_slows_12 : decode cX11_slows 12 = .ok (.iload_n 2, 1) := by decide +kernel
theorem dX11_slows_13 : decode cX11_slows 13 = .ok (.i2l, 1) := by decide +kernel
theorem dX11_slows_14 : decode cX11_slows 14 = .ok (.lconst 0, 1) := by decide +kernel
theorem dX11_slows_15 : decode cX11_slows 15 = .ok (.ldc2_w 135, 3) := by decide +kernel
theorem dX11_slows_18 : decode cX11_slows 18 = .ok (.invokestatic 72, 3) := by decide +kernel
theorem dX11_slows_21 : decode cX11_slows 21 = .ok (.ifCond .ne 5, 3) := by decide +kernel
theorem dX11_slows_24 : decode cX11_slows 24 = .ok (.iconst (-1), 1) := by decide +kernel
theorem dX11_slows_25 : decode cX11_slows 25 = .ok (.ireturn, 1) := by decide +kernel
theorem dX11_slows_26 : decode cX11_slows 26 = .ok (.iconst 1, 1) := by decide +kernel
theorem dX11_slows_27 : decode cX11_slows 27 = .ok (.istore_n 3, 1) := by decide +kernel
theorem dX11_slows_28 : decode cX11_slows 28 = .ok (.iload_n 3, 1) := by decide +kernel
theorem dX11_slows_29 : decode cX11_slows 29 = .ok (.sipush 400, 3) := by decide +kernel
theorem dX11_slows_32 : decode cX11_slows 32 = .ok (.if_icmp .gt 28, 3) := by decide +kernel
theorem dX11_slows_35 : decode cX11_slows 35 = .ok (.aload_n 0, 1) := by decide +kernel
theorem dX11_slows_36 : decode cX11_slows 36 = .ok (.invokevirtual 126, 3) := by decide +kernel
theorem dX11_slows_39 : decode cX11_slows 39 = .ok (.ifCond .le 21, 3) := by decide +kernel
theorem dX11_slows_42 : decode cX11_slows 42 = .ok (.aload_n 0, 1) := by decide +kernel
theorem dX11_slows_43 : decode cX11_slows 43 = .ok (.iload_n 1, 1) := by decide +kernel
theorem dX11_slows_44 : decode cX11_slows 44 = .ok (.iload_n 3, 1) := by decide +kernel
theorem dX11_slows_45 : decode cX11_slows 45 = .ok (.invokevirtual 132, 3) := by decide +kernel
theorem dX11_slows_48 : decode cX11_slows 48 = .ok (.iload_n 2, 1) := by decide +kernel
theorem dX11_slows_49 : decode cX11_slows 49 = .ok (.if_icmp .le 5, 3) := by decide +kernel
theorem dX11_slows_52 : decode cX11_slows 52 = .ok (.iload_n 3, 1) := by decide +kernel
theorem dX11_slows_53 : decode cX11_slows 53 = .ok (.ireturn, 1) := by decide +kernel
theorem dX11_slows_54 : decode cX11_slows 54 = .ok (.iinc 3 1, 3) := by decide +kernel
theorem dX11_slows_57 : decode cX11_slows 57 = .ok (.goto (-29), 3) := by decide +kernel
theorem dX11_slows_60 : decode cX11_slows 60 = .ok (.bipush (-4), 2) := by decide +kernel
theorem dX11_slows_62 : decode cX11_slows 62 = .ok (.ireturn, 1) := by decide +kernel
theorem dX11_apart_0 : decode cX11_apart 0 = .ok (.iload_n 1, 1) := by decide +kernel
theorem dX11_apart_1 : decode cX11_apart 1 = .ok (.i2l, 1) := by decide +kernel
theorem dX11_apart_2 : decode cX11_apart 2 = .ok (.lconst 0, 1) := by decide +kernel
theorem dX11_apart_3 : decode cX11_apart 3 = .ok (.ldc2_w 118, 3) := by decide +kernel
theorem dX11_apart_6 : decode cX11_apart 6 = .ok (.invokestatic 72, 3) := by decide +kernel
theorem dX11_apart_9 : decode cX11_apart 9 = .ok (.ifCond .ne 5, 3) := by decide +kernel
theorem dX11_apart_12 : decode cX11_apart 12 = .ok (.iconst (-1), 1) := by decide +kernel
theorem dX11_apart_13 : decode cX11_apart 13 = .ok (.ireturn, 1) := by decide +kernel
theorem dX11_apart_14 : decode cX11_apart 14 = .ok (.aload_n 0, 1) := by decide +kernel
theorem dX11_apart_15 : decode cX11_apart 15 = .ok (.invokevirtual 126, 3) := by decide +kernel
theorem dX11_apart_18 : decode cX11_apart 18 = .ok (.istore_n 2, 1) := by decide +kernel
theorem dX11_apart_19 : decode cX11_apart 19 = .ok (.iload_n 2, 1) := by decide +kernel
theorem dX11_apart_20 : decode cX11_apart 20 = .ok (.ifCond .ne 6, 3) := by decide +kernel
theorem dX11_apart_23 : decode cX11_apart 23 = .ok (.bipush (-4), 2) := by decide +kernel
theorem dX11_apart_25 : decode cX11_apart 25 = .ok (.ireturn, 1) := by decide +kernel
theorem dX11_apart_26 : decode cX11_apart 26 = .ok (.aload_n 0, 1) := by decide +kernel
theorem dX11_apart_27 : decode cX11_apart 27 = .ok (.iload_n 1, 1) := by decide +kernel
theorem dX11_apart_28 : decode cX11_apart 28 = .ok (.iconst 0, 1) := by decide +kernel
theorem dX11_apart_29 : decode cX11_apart 29 = .ok (.invokevirtual 122, 3) := by decide +kernel
theorem dX11_apart_32 : decode cX11_apart 32 = .ok (.iconst 0, 1) := by decide +kernel
theorem dX11_apart_33 : decode cX11_apart 33 = .ok (.istore_n 3, 1) := by decide +kernel
theorem dX11_apart_34 : decode cX11_apart 34 = .ok (.iconst 0, 1) := by decide +kernel
theorem dX11_apart_35 : decode cX11_apart 35 = .ok (.istore 4, 2) := by decide +kernel
theorem dX11_apart_37 : decode cX11_apart 37 = .ok (.iconst 0, 1) := by decide +kernel
theorem dX11_apart_38 : decode cX11_apart 38 = .ok (.istore 5, 2) := by decide +kernel
theorem dX11_apart_40 : decode cX11_apart 40 = .ok (.iconst 0, 1) := by decide +kernel
theorem dX11_apart_41 : decode cX11_apart 41 = .ok (.istore 6, 2) := by decide +kernel
theorem dX11_apart_43 : decode cX11_apart 43 = .ok (.iload 6, 2) := by decide +kernel
theorem dX11_apart_45 : decode cX11_apart 45 = .ok (.aload_n 0, 1) := by decide +kernel
theorem dX11_apart_46 : decode cX11_apart 46 = .ok (.invokevirtual 82, 3) := by decide +kernel
theorem dX11_apart_49 : decode cX11_apart 49 = .ok (.if_icmp .ge 76, 3) := by decide +kernel
theorem dX11_apart_52 : decode cX11_apart 52 = .ok (.iload_n 2, 1) := by decide +kernel
theorem dX11_apart_53 : decode cX11_apart 53 = .ok (.iload 6, 2) := by decide +kernel
theorem dX11_apart_55 : decode cX11_apart 55 = .ok (.ishr, 1) := by decide +kernel
theorem dX11_apart_56 : decode cX11_apart 56 = .ok (.iconst 1, 1) := by decide +kernel
theorem dX11_apart_57 : decode cX11_apart 57 = .ok (.iand, 1) := by decide +kernel
theorem dX11_apart_58 : decode cX11_apart 58 = .ok (.iconst 1, 1) := by decide +kernel
theorem dX11_apart_59 : decode cX11_apart 59 = .ok (.if_icmp .ne 60, 3) := by decide +kernel
theorem dX11_apart_62 : decode cX11_apart 62 = .ok (.aload_n 0, 1) := by decide +kernel
theorem dX11_apart_63 : decode cX11_apart 63 = .ok (.getfield 17, 3) := by decide +kernel
theorem dX11_apart_66 : decode cX11_apart 66 = .ok (.bipush 8, 2) := by decide +kernel
theorem dX11_apart_68 : decode cX11_apart 68 = .ok (.iload_n 1, 1) := by decide +kernel
theorem dX11_apart_69 : decode cX11_apart 69 = .ok (.imul, 1) := by decide +kernel
theorem dX11_apart_70 : decode cX11_apart 70 = .ok (.iload 6, 2) := by decide +kernel
theorem dX11_apart_72 : decode cX11_apart 72 = .ok (.iadd, 1) := by decide +kernel
theorem dX11_apart_73 : decode cX11_apart 73 = .ok (.iaload, 1) := by decide +kernel
theorem dX11_apart_74 : decode cX11_apart 74 = .ok (.istore 7, 2) := by decide +kernel
theorem dX11_apart_76 : decode cX11_apart 76 = .ok (.iload_n 3, 1) := by decide +kernel
theorem dX11_apart_77 : decode cX11_apart 77 = .ok (.ifCond .eq 10, 3) := by decide +kernel
theorem dX11_apart_80 : decode cX11_apart 80 = .ok (.iload 7, 2) := by decide +kernel
theorem dX11_apart_82 : decode cX11_apart 82 = .ok (.iload 4, 2) := by decide +kernel
theorem dX11_apart_84 : decode cX11_apart 84 = .ok (.if_icmp .ge 8, 3) := by decide +kernel
theorem dX11_apart_87 : decode cX11_apart 87 = .ok (.iload 7, 2) := by decide +kernel
theorem dX11_apart_89 : decode cX11_apart 89 = .ok (.goto 5, 3) := by decide +kernel
theorem dX11_apart_92 : decode cX11_apart 92 = .ok (.iload 4, 2) := by decide +kernel
theorem dX11_apart_94 : decode cX11_apart 94 = .ok (.istore 4, 2) := by decide +kernel
theorem dX11_apart_96 : decode cX11_apart 96 = .ok (.iload_n 3, 1) := by decide +kernel
theorem dX11_apart_97 : decode cX11_apart 97 = .ok (.ifCond .eq 10, 3) := by decide +kernel
theorem dX11_apart_100 : decode cX11_apart 100 = .ok (.iload 7, 2) := by decide +kernel
theorem dX11_apart_102 : decode cX11_apart 102 = .ok (.iload 5, 2) := by decide +kernel
theorem dX11_apart_104 : decode cX11_apart 104 = .ok (.if_icmp .le 8, 3) := by decide +kernel
theorem dX11_apart_107 : decode cX11_apart 107 = .ok (.iload 7, 2) := by decide +kernel
theorem dX11_apart_109 : decode cX11_apart 109 = .ok (.goto 5, 3) := by decide +kernel
theorem dX11_apart_112 : decode cX11_apart 112 = .ok (.iload 5, 2) := by decide +kernel
theorem dX11_apart_114 : decode cX11_apart 114 = .ok (.istore 5, 2) := by decide +kernel
theorem dX11_apart_116 : decode cX11_apart 116 = .ok (.iinc 3 1, 3) := by decide +kernel
theorem dX11_apart_119 : decode cX11_apart 119 = .ok (.iinc 6 1, 3) := by decide +kernel
theorem dX11_apart_122 : decode cX11_apart 122 = .ok (.goto (-79), 3) := by decide +kernel
theorem dX11_apart_125 : decode cX11_apart 125 = .ok (.iload 5, 2) := by decide +kernel
theorem dX11_apart_127 : decode cX11_apart 127 = .ok (.iload 4, 2) := by decide +kernel
theorem dX11_apart_129 : decode cX11_apart 129 = .ok (.isub, 1) := by decide +kernel
theorem dX11_apart_130 : decode cX11_apart 130 = .ok (.ireturn, 1) := by decide +kernel
theorem dX11_count_0 : decode cX11_count 0 = .ok (.iconst 0, 1) := by decide +kernel
theorem dX11_count_1 : decode cX11_count 1 = .ok (.istore_n 2, 1) := by decide +kernel
theorem dX11_count_2 : decode cX11_count 2 = .ok (.bipush 64, 2) := by decide +kernel
theorem dX11_count_4 : decode cX11_count 4 = .ok (.istore_n 3, 1) := by decide +kernel
theorem dX11_count_5 : decode cX11_count 5 = .ok (.iload_n 3, 1) := by decide +kernel
theorem dX11_count_6 : decode cX11_count 6 = .ok (.sipush 128, 3) := by decide +kernel
theorem dX11_count_9 : decode cX11_count 9 = .ok (.if_icmp .ge 26, 3) := by decide +kernel
theorem dX11_count_12 : decode cX11_count 12 = .ok (.iload_n 2, 1) := by decide +kernel
theorem dX11_count_13 : decode cX11_count 13 = .ok (.aload_n 0, 1) := by decide +kernel
theorem dX11_count_14 : decode cX11_count 14 = .ok (.getfield 7, 3) := by decide +kernel
theorem dX11_count_17 : decode cX11_count 17 = .ok (.iload_n 3, 1) := by decide +kernel
theorem dX11_count_18 : decode cX11_count 18 = .ok (.iaload, 1) := by decide +kernel
theorem dX11_count_19 : decode cX11_count 19 = .ok (.ifCond .le 7, 3) := by decide +kernel
theorem dX11_count_22 : decode cX11_count 22 = .ok (.iconst 1, 1) := by decide +kernel
theorem dX11_count_23 : decode cX11_count 23 = .ok (.goto 4, 3) := by decide +kernel
theorem dX11_count_26 : decode cX11_count 26 = .ok (.iconst 0, 1) := by decide +kernel
theorem dX11_count_27 : decode cX11_count 27 = .ok (.iadd, 1) := by decide +kernel
theorem dX11_count_28 : decode cX11_count 28 = .ok (.istore_n 2, 1) := by decide +kernel
theorem dX11_count_29 : decode cX11_count 29 = .ok (.iinc 3 1, 3) := by decide +kernel
theorem dX11_count_32 : decode cX11_count 32 = .ok (.goto (-27), 3) := by decide +kernel
theorem dX11_count_35 : decode cX11_count 35 = .ok (.iconst 0, 1) := by decide +kernel
theorem dX11_count_36 : decode cX11_count 36 = .ok (.istore_n 3, 1) := by decide +kernel
theorem dX11_count_37 : decode cX11_count 37 = .ok (.iconst 0, 1) := by decide +kernel
theorem dX11_count_38 : decode cX11_count 38 = .ok (.istore 4, 2) := by decide +kernel
theorem dX11_count_40 : decode cX11_count 40 = .ok (.iload 4, 2) := by decide +kernel
theorem dX11_count_42 : decode cX11_count 42 = .ok (.aload_n 0, 1) := by decide +kernel
theorem dX11_count_43 : decode cX11_count 43 = .ok (.getfield 7, 3) := by decide +kernel
theorem dX11_count_46 : decode cX11_count 46 = .ok (.sipush 130, 3) := by decide +kernel
theorem dX11_count_49 : decode cX11_count 49 = .ok (.iaload, 1) := by decide +kernel
theorem dX11_count_50 : decode cX11_count 50 = .ok (.if_icmp .ge 33, 3) := by decide +kernel
theorem dX11_count_53 : decode cX11_count 53 = .ok (.iload_n 3, 1) := by decide +kernel
theorem dX11_count_54 : decode cX11_count 54 = .ok (.aload_n 0, 1) := by decide +kernel
theorem dX11_count_55 : decode cX11_count 55 = .ok (.getfield 7, 3) := by decide +kernel
theorem dX11_count_58 : decode cX11_count 58 = .ok (.sipush 136, 3) := by decide +kernel
theorem dX11_count_61 : decode cX11_count 61 = .ok (.iload 4, 2) := by decide +kernel
theorem dX11_count_63 : decode cX11_count 63 = .ok (.iadd, 1) := by decide +kernel
theorem dX11_count_64 : decode cX11_count 64 = .ok (.iaload, 1) := by decide +kernel
theorem dX11_count_65 : decode cX11_count 65 = .ok (.bipush 10, 2) := by decide +kernel
theorem dX11_count_67 : decode cX11_count 67 = .ok (.if_icmp .lt 7, 3) := by decide +kernel
theorem dX11_count_70 : decode cX11_count 70 = .ok (.iconst 1, 1) := by decide +kernel
theorem dX11_count_71 : decode cX11_count 71 = .ok (.goto 4, 3) := by decide +kernel
theorem dX11_count_74 : decode cX11_count 74 = .ok (.iconst 0, 1) := by decide +kernel
theorem dX11_count_75 : decode cX11_count 75 = .ok (.iadd, 1) := by decide +kernel
theorem dX11_count_76 : decode cX11_count 76 = .ok (.istore_n 3, 1) := by decide +kernel
theorem dX11_count_77 : decode cX11_count 77 = .ok (.iinc 4 1, 3) := by decide +kernel
theorem dX11_count_80 : decode cX11_count 80 = .ok (.goto (-40), 3) := by decide +kernel
theorem dX11_count_83 : decode cX11_count 83 = .ok (.iload_n 1, 1) := by decide +kernel
theorem dX11_count_84 : decode cX11_count 84 = .ok (.tableswitch 75 0 5 #[40, 45, 53, 55, 64, 66], 40) := by decide +kernel
theorem dX11_count_124 : decode cX11_count 124 = .ok (.aload_n 0, 1) := by decide +kernel
theorem dX11_count_125 : decode cX11_count 125 = .ok (.invokevirtual 82, 3) := by decide +kernel
theorem dX11_count_128 : decode cX11_count 128 = .ok (.ireturn, 1) := by decide +kernel
theorem dX11_count_129 : decode cX11_count 129 = .ok (.aload_n 0, 1) := by decide +kernel
theorem dX11_count_130 : decode cX11_count 130 = .ok (.invokevirtual 126, 3) := by decide +kernel
theorem dX11_count_133 : decode cX11_count 133 = .ok (.invokestatic 129, 3) := by decide +kernel
theorem dX11_count_136 : decode cX11_count 136 = .ok (.ireturn, 1) := by decide +kernel
theorem dX11_count_137 : decode cX11_count 137 = .ok (.iload_n 2, 1) := by decide +kernel
theorem dX11_count_138 : decode cX11_count 138 = .ok (.ireturn, 1) := by decide +kernel
theorem dX11_count_139 : decode cX11_count 139 = .ok (.aload_n 0, 1) := by decide +kernel
theorem dX11_count_140 : decode cX11_count 140 = .ok (.getfield 7, 3) := by decide +kernel
theorem dX11_count_143 : decode cX11_count 143 = .ok (.sipush 130, 3) := by decide +kernel
theorem dX11_count_146 : decode cX11_count 146 = .ok (.iaload, 1) := by decide +kernel
theorem dX11_count_147 : decode cX11_count 147 = .ok (.ireturn, 1) := by decide +kernel
theorem dX11_count_148 : decode cX11_count 148 = .ok (.iload_n 3, 1) := by decide +kernel
theorem dX11_count_149 : decode cX11_count 149 = .ok (.ireturn, 1) := by decide +kernel
theorem dX11_count_150 : decode cX11_count 150 = .ok (.aload_n 0, 1) := by decide +kernel
theorem dX11_count_151 : decode cX11_count 151 = .ok (.getfield 7, 3) := by decide +kernel
theorem dX11_count_154 : decode cX11_count 154 = .ok (.sipush 132, 3) := by decide +kernel
theorem dX11_count_157 : decode cX11_count 157 = .ok (.iaload, 1) := by decide +kernel
theorem dX11_count_158 : decode cX11_count 158 = .ok (.ireturn, 1) := by decide +kernel
theorem dX11_count_159 : decode cX11_count 159 = .ok (.iconst (-1), 1) := by decide +kernel
theorem dX11_count_160 : decode cX11_count 160 = .ok (.ireturn, 1) := by decide +kernel
theorem dX11_hold_0 : decode cX11_hold 0 = .ok (.aload_n 0, 1) := by decide +kernel
theorem dX11_hold_1 : decode cX11_hold 1 = .ok (.iload_n 1, 1) := by decide +kernel
theorem dX11_hold_2 : decode cX11_hold 2 = .ok (.invokevirtual 86, 3) := by decide +kernel
theorem dX11_hold_5 : decode cX11_hold 5 = .ok (.ifCond .eq 13, 3) := by decide +kernel
theorem dX11_hold_8 : decode cX11_hold 8 = .ok (.iload_n 2, 1) := by decide +kernel
theorem dX11_hold_9 : decode cX11_hold 9 = .ok (.i2l, 1) := by decide +kernel
theorem dX11_hold_10 : decode cX11_hold 10 = .ok (.lconst 0, 1) := by decide +kernel
theorem dX11_hold_11 : decode cX11_hold 11 = .ok (.lconst 1, 1) := by decide +kernel
theorem dX11_hold_12 : decode cX11_hold 12 = .ok (.invokestatic 72, 3) := by decide +kernel
theorem dX11_hold_15 : decode cX11_hold 15 = .ok (.ifCond .ne 5, 3) := by decide +kernel
theorem dX11_hold_18 : decode cX11_hold 18 = .ok (.iconst (-1), 1) := by decide +kernel
theorem dX11_hold_19 : decode cX11_hold 19 = .ok (.ireturn, 1) := by decide +kernel
theorem dX11_hold_20 : decode cX11_hold 20 = .ok (.aload_n 0, 1) := by decide +kernel
theorem dX11_hold_21 : decode cX11_hold 21 = .ok (.iload_n 1, 1) := by decide +kernel
theorem dX11_hold_22 : decode cX11_hold 22 = .ok (.invokevirtual 137, 3) := by decide +kernel
theorem dX11_hold_25 : decode cX11_hold 25 = .ok (.ifCond .eq 6, 3) := by decide +kernel
theorem dX11_hold_28 : decode cX11_hold 28 = .ok (.bipush (-4), 2) := by decide +kernel
theorem dX11_hold_30 : decode cX11_hold 30 = .ok (.ireturn, 1) := by decide +kernel
theorem dX11_hold_31 : decode cX11_hold 31 = .ok (.iconst 0, 1) := by decide +kernel
theorem dX11_hold_32 : decode cX11_hold 32 = .ok (.istore_n 3, 1) := by decide +kernel
theorem dX11_hold_33 : decode cX11_hold 33 = .ok (.iconst 0, 1) := by decide +kernel
theorem dX11_hold_34 : decode cX11_hold 34 = .ok (.istore 4, 2) := by decide +kernel
theorem dX11_hold_36 : decode cX11_hold 36 = .ok (.iconst 0, 1) := by decide +kernel
theorem dX11_hold_37 : decode cX11_hold 37 = .ok (.istore 5, 2) := by decide +kernel
theorem dX11_hold_39 : decode cX11_hold 39 = .ok (.iconst 0, 1) := by decide +kernel
theorem dX11_hold_40 : decode cX11_hold 40 = .ok (.istore 6, 2) := by decide +kernel
theorem dX11_hold_42 : decode cX11_hold 42 = .ok (.iload 6, 2) := by decide +kernel
theorem dX11_hold_44 : decode cX11_hold 44 = .ok (.aload_n 0, 1) := by decide +kernel
theorem dX11_hold_45 : decode cX11_hold 45 = .ok (.invokevirtual 82, 3) := by decide +kernel
theorem dX11_hold_48 : decode cX11_hold 48 = .ok (.if_icmp .ge 64, 3) := by decide +kernel
theorem dX11_hold_51 : decode cX11_hold 51 = .ok (.iload 6, 2) := by decide +kernel
theorem dX11_hold_53 : decode cX11_hold 53 = .ok (.iload_n 1, 1) := by decide +kernel
theorem dX11_hold_54 : decode cX11_hold 54 = .ok (.if_icmp .eq 52, 3) := by decide +kernel
theorem dX11_hold_57 : decode cX11_hold 57 = .ok (.aload_n 0, 1) := by decide +kernel
theorem dX11_hold_58 : decode cX11_hold 58 = .ok (.iload 6, 2) := by decide +kernel
theorem dX11_hold_60 : decode cX11_hold 60 = .ok (.invokevirtual 111, 3) := by decide +kernel
theorem dX11_hold_63 : decode cX11_hold 63 = .ok (.ifCond .eq 43, 3) := by decide +kernel
theorem dX11_hold_66 : decode cX11_hold 66 = .ok (.aload_n 0, 1) := by decide +kernel
theorem dX11_hold_67 : decode cX11_hold 67 = .ok (.iload 6, 2) := by decide +kernel
theorem dX11_hold_69 : decode cX11_hold 69 = .ok (.iload_n 1, 1) := by decide +kernel
theorem dX11_hold_70 : decode cX11_hold 70 = .ok (.invokevirtual 96, 3) := by decide +kernel
theorem dX11_hold_73 : decode cX11_hold 73 = .ok (.istore 7, 2) := by decide +kernel
theorem dX11_hold_75 : decode cX11_hold 75 = .ok (.iload 7, 2) := by decide +kernel
theorem dX11_hold_77 : decode cX11_hold 77 = .ok (.ifCond .ne 6, 3) := by decide +kernel
theorem dX11_hold_80 : decode cX11_hold 80 = .ok (.bipush (-4), 2) := by decide +kernel
theorem dX11_hold_82 : decode cX11_hold 82 = .ok (.ireturn, 1) := by decide +kernel
theorem dX11_hold_83 : decode cX11_hold 83 = .ok (.iload 7, 2) := by decide +kernel
theorem dX11_hold_85 : decode cX11_hold 85 = .ok (.iload_n 3, 1) := by decide +kernel
theorem dX11_hold_86 : decode cX11_hold 86 = .ok (.if_icmp .le 8, 3) := by decide +kernel
theorem dX11_hold_89 : decode cX11_hold 89 = .ok (.iload 7, 2) := by decide +kernel
theorem dX11_hold_91 : decode cX11_hold 91 = .ok (.goto 4, 3) := by decide +kernel
theorem dX11_hold_94 : decode cX11_hold 94 = .ok (.iload_n 3, 1) := by decide +kernel
theorem dX11_hold_95 : decode cX11_hold 95 = .ok (.istore_n 3, 1) := by decide +kernel
theorem dX11_hold_96 : decode cX11_hold 96 = .ok (.iload 4, 2) := by decide +kernel
theorem dX11_hold_98 : decode cX11_hold 98 = .ok (.iload 7, 2) := by decide +kernel
theorem dX11_hold_100 : decode cX11_hold 100 = .ok (.iadd, 1) := by decide +kernel
theorem dX11_hold_101 : decode cX11_hold 101 = .ok (.istore 4, 2) := by decide +kernel
theorem dX11_hold_103 : decode cX11_hold 103 = .ok (.iinc 5 1, 3) := by decide +kernel
theorem dX11_hold_106 : decode cX11_hold 106 = .ok (.iinc 6 1, 3) := by decide +kernel
theorem dX11_hold_109 : decode cX11_hold 109 = .ok (.goto (-67), 3) := by decide +kernel
theorem dX11_hold_112 : decode cX11_hold 112 = .ok (.iload_n 2, 1) := by decide +kernel
theorem dX11_hold_113 : decode cX11_hold 113 = .ok (.ifCond .ne 7, 3) := by decide +kernel
theorem dX11_hold_116 : decode cX11_hold 116 = .ok (.iload_n 3, 1) := by decide +kernel
theorem dX11_hold_117 : decode cX11_hold 117 = .ok (.goto 10, 3) := by decide +kernel
theorem dX11_hold_120 : decode cX11_hold 120 = .ok (.iload 5, 2) := by decide +kernel
theorem dX11_hold_122 : decode cX11_hold 122 = .ok (.iload_n 3, 1) := by decide +kernel
theorem dX11_hold_123 : decode cX11_hold 123 = .ok (.imul, 1) := by decide +kernel
theorem dX11_hold_124 : decode cX11_hold 124 = .ok (.iload 4, 2) := by decide +kernel
theorem dX11_hold_126 : decode cX11_hold 126 = .ok (.isub, 1) := by decide +kernel
theorem dX11_hold_127 : decode cX11_hold 127 = .ok (.ireturn, 1) := by decide +kernel
theorem dX11_bars_0 : decode cX11_bars 0 = .ok (.iconst 0, 1) := by decide +kernel
theorem dX11_bars_1 : decode cX11_bars 1 = .ok (.istore_n 3, 1) := by decide +kernel
theorem dX11_bars_2 : decode cX11_bars 2 = .ok (.iconst 0, 1) := by decide +kernel
theorem dX11_bars_3 : decode cX11_bars 3 = .ok (.istore 4, 2) := by decide +kernel
theorem dX11_bars_5 : decode cX11_bars 5 = .ok (.iload 4, 2) := by decide +kernel
theorem dX11_bars_7 : decode cX11_bars 7 = .ok (.aload_n 0, 1) := by decide +kernel
theorem dX11_bars_8 : decode cX11_bars 8 = .ok (.invokevirtual 82, 3) := by decide +kernel
theorem dX11_bars_11 : decode cX11_bars 11 = .ok (.if_icmp .ge 270, 3) := by decide +kernel
theorem dX11_bars_14 : decode cX11_bars 14 = .ok (.iload_n 2, 1) := by decide +kernel
theorem dX11_bars_15 : decode cX11_bars 15 = .ok (.ifCond .eq 266, 3) := by decide +kernel
theorem dX11_bars_18 : decode cX11_bars 18 = .ok (.iload_n 1, 1) := by decide +kernel
theorem dX11_bars_19 : decode cX11_bars 19 = .ok (.iload 4, 2) := by decide +kernel
theorem dX11_bars_21 : decode cX11_bars 21 = .ok (.ishr, 1) := by decide +kernel
theorem dX11_bars_22 : decode cX11_bars 22 = .ok (.iconst 1, 1) := by decide +kernel
theorem dX11_bars_23 : decode cX11_bars 23 = .ok (.iand, 1) := by decide +kernel
theorem dX11_bars_24 : decode cX11_bars 24 = .ok (.iconst 1, 1) := by decide +kernel
theorem dX11_bars_25 : decode cX11_bars 25 = .ok (.if_icmp .ne 250, 3) := by decide +kernel
theorem dX11_bars_28 : decode cX11_bars 28 = .ok (.aload_n 0, 1) := by decide +kernel
theorem dX11_bars_29 : decode cX11_bars 29 = .ok (.iload 4, 2) := by decide +kernel
theorem dX11_bars_31 : decode cX11_bars 31 = .ok (.invokevirtual 137, 3) := by decide +kernel
theorem dX11_bars_34 : decode cX11_bars 34 = .ok (.ifCond .ne 7, 3) := by decide +kernel
theorem dX11_bars_37 : decode cX11_bars 37 = .ok (.iconst 1, 1) := by decide +kernel
theorem dX11_bars_38 : decode cX11_bars 38 = .ok (.goto 4, 3) := by decide +kernel
theorem dX11_bars_41 : decode cX11_bars 41 = .ok (.iconst 0, 1) := by decide +kernel
theorem dX11_bars_42 : decode cX11_bars 42 = .ok (.istore 5, 2) := by decide +kernel
theorem dX11_bars_44 : decode cX11_bars 44 = .ok (.sipush 1000, 3) := by decide +kernel
theorem dX11_bars_47 : decode cX11_bars 47 = .ok (.istore 6, 2) := by decide +kernel
theorem dX11_bars_49 : decode cX11_bars 49 = .ok (.iconst 0, 1) := by decide +kernel
theorem dX11_bars_50 : decode cX11_bars 50 = .ok (.istore 7, 2) := by decide +kernel
theorem dX11_bars_52 : decode cX11_bars 52 = .ok (.iload 7, 2) := by decide +kernel
theorem dX11_bars_54 : decode cX11_bars 54 = .ok (.aload_n 0, 1) := by decide +kernel
theorem dX11_bars_55 : decode cX11_bars 55 = .ok (.invokevirtual 82, 3) := by decide +kernel
theorem dX11_bars_58 : decode cX11_bars 58 = .ok (.if_icmp .ge 87, 3) := by decide +kernel
theorem dX11_bars_61 : decode cX11_bars 61 = .ok (.iload_n 2, 1) := by decide +kernel
theorem dX11_bars_62 : decode cX11_bars 62 = .ok (.iload 7, 2) := by decide +kernel
theorem dX11_bars_64 : decode cX11_bars 64 = .ok (.ishr, 1) := by decide +kernel
theorem dX11_bars_65 : decode cX11_bars 65 = .ok (.iconst 1, 1) := by decide +kernel
theorem dX11_bars_66 : decode cX11_bars 66 = .ok (.iand, 1) := by decide +kernel
theorem dX11_bars_67 : decode cX11_bars 67 = .ok (.iconst 1, 1) := by decide +kernel
theorem dX11_bars_68 : decode cX11_bars 68 = .ok (.if_icmp .ne 7, 3) := by decide +kernel
theorem dX11_bars_71 : decode cX11_bars 71 = .ok (.iconst 1, 1) := by decide +kernel
theorem dX11_bars_72 : decode cX11_bars 72 = .ok (.goto 4, 3) := by decide +kernel
theorem dX11_bars_75 : decode cX11_bars 75 = .ok (.iconst 0, 1) := by decide +kernel
theorem dX11_bars_76 : decode cX11_bars 76 = .ok (.istore 8, 2) := by decide +kernel
theorem dX11_bars_78 : decode cX11_bars 78 = .ok (.iload 5, 2) := by decide +kernel
theorem dX11_bars_80 : decode cX11_bars 80 = .ok (.ifCond .eq 23, 3) := by decide +kernel
theorem dX11_bars_83 : decode cX11_bars 83 = .ok (.iload 8, 2) := by decide +kernel
theorem dX11_bars_85 : decode cX11_bars 85 = .ok (.ifCond .eq 14, 3) := by decide +kernel
theorem dX11_bars_88 : decode cX11_bars 88 = .ok (.aload_n 0, 1) := by decide +kernel
theorem dX11_bars_89 : decode cX11_bars 89 = .ok (.iload 7, 2) := by decide +kernel
theorem dX11_bars_91 : decode cX11_bars 91 = .ok (.iload 4, 2) := by decide +kernel
theorem dX11_bars_93 : decode cX11_bars 93 = .ok (.invokevirtual 96, 3) := by decide +kernel
theorem dX11_bars_96 : decode cX11_bars 96 = .ok (.ifCond .le 7, 3) := by decide +kernel
theorem dX11_bars_99 : decode cX11_bars 99 = .ok (.iconst 1, 1) := by decide +kernel
theorem dX11_bars_100 : decode cX11_bars 100 = .ok (.goto 4, 3) := by decide +kernel
theorem dX11_bars_103 : decode cX11_bars 103 = .ok (.iconst 0, 1) := by decide +kernel
theorem dX11_bars_104 : decode cX11_bars 104 = .ok (.istore 5, 2) := by decide +kernel
theorem dX11_bars_106 : decode cX11_bars 106 = .ok (.iload 8, 2) := by decide +kernel
theorem dX11_bars_108 : decode cX11_bars 108 = .ok (.ifCond .eq 27, 3) := by decide +kernel
theorem dX11_bars_111 : decode cX11_bars 111 = .ok (.aload_n 0, 1) := by decide +kernel
theorem dX11_bars_112 : decode cX11_bars 112 = .ok (.iload 7, 2) := by decide +kernel
theorem dX11_bars_114 : decode cX11_bars 114 = .ok (.iload 4, 2) := by decide +kernel
theorem dX11_bars_116 : decode cX11_bars 116 = .ok (.invokevirtual 96, 3) := by decide +kernel
theorem dX11_bars_119 : decode cX11_bars 119 = .ok (.iload 6, 2) := by decide +kernel
theorem dX11_bars_121 : decode cX11_bars 121 = .ok (.if_icmp .ge 14, 3) := by decide +kernel
theorem dX11_bars_124 : decode cX11_bars 124 = .ok (.aload_n 0, 1) := by decide +kernel
theorem dX11_bars_125 : decode cX11_bars 125 = .ok (.iload 7, 2) := by decide +kernel
theorem dX11_bars_127 : decode cX11_bars 127 = .ok (.iload 4, 2) := by decide +kernel
theorem dX11_bars_129 : decode cX11_bars 129 = .ok (.invokevirtual 96, 3) := by decide +kernel
theorem dX11_bars_132 : decode cX11_bars 132 = .ok (.goto 5, 3) := by decide +kernel
theorem dX11_bars_135 : decode cX11_bars 135 = .ok (.iload 6, 2) := by decide +kernel
theorem dX11_bars_137 : decode cX11_bars 137 = .ok (.istore 6, 2) := by decide +kernel
theorem dX11_bars_139 : decode cX11_bars 139 = .ok (.iinc 7 1, 3) := by decide +kernel
theorem dX11_bars_142 : decode cX11_bars 142 = .ok (.goto (-90), 3) := by decide +kernel
theorem dX11_bars_145 : decode cX11_bars 145 = .ok (.sipush 5000, 3) := by decide +kernel
theorem dX11_bars_148 : decode cX11_bars 148 = .ok (.istore 7, 2) := by decide +kernel
theorem dX11_bars_150 : decode cX11_bars 150 = .ok (.iconst 0, 1) := by decide +kernel
theorem dX11_bars_151 : decode cX11_bars 151 = .ok (.istore 8, 2) := by decide +kernel
theorem dX11_bars_153 : decode cX11_bars 153 = .ok (.iload 8, 2) := by decide +kernel
theorem dX11_bars_155 : decode cX11_bars 155 = .ok (.aload_n 0, 1) := by decide +kernel
theorem dX11_bars_156 : decode cX11_bars 156 = .ok (.invokevirtual 82, 3) := by decide +kernel
theorem dX11_bars_159 : decode cX11_bars 159 = .ok (.if_icmp .ge 105, 3) := by decide +kernel
theorem dX11_bars_162 : decode cX11_bars 162 = .ok (.iload 5, 2) := by decide +kernel
theorem dX11_bars_164 : decode cX11_bars 164 = .ok (.ifCond .eq 100, 3) := by decide +kernel
theorem dX11_bars_167 : decode cX11_bars 167 = .ok (.iload_n 2, 1) := by decide +kernel
theorem dX11_bars_168 : decode cX11_bars 168 = .ok (.iload 8, 2) := by decide +kernel
theorem dX11_bars_170 : decode cX11_bars 170 = .ok (.ishr, 1) := by decide +kernel
theorem dX11_bars_171 : decode cX11_bars 171 = .ok (.iconst 1, 1) := by decide +kernel
theorem dX11_bars_172 : decode cX11_bars 172 = .ok (.iand, 1) := by decide +kernel
theorem dX11_bars_173 : decode cX11_bars 173 = .ok (.iconst 1, 1) := by decide +kernel
theorem dX11_bars_174 : decode cX11_bars 174 = .ok (.if_icmp .ne 84, 3) := by decide +kernel
theorem dX11_bars_177 : decode cX11_bars 177 = .ok (.aload_n 0, 1) := by decide +kernel
theorem dX11_bars_178 : decode cX11_bars 178 = .ok (.getfield 20, 3) := by decide +kernel
theorem dX11_bars_181 : decode cX11_bars 181 = .ok (.iload 8, 2) := by decide +kernel
theorem dX11_bars_183 : decode cX11_bars 183 = .ok (.iload_n 3, 1) := by decide +kernel
theorem dX11_bars_184 : decode cX11_bars 184 = .ok (.ifCond .ne 17, 3) := by decide +kernel
theorem dX11_bars_187 : decode cX11_bars 187 = .ok (.aload_n 0, 1) := by decide +kernel
theorem dX11_bars_188 : decode cX11_bars 188 = .ok (.iload 8, 2) := by decide +kernel
theorem dX11_bars_190 : decode cX11_bars 190 = .ok (.iload 4, 2) := by decide +kernel
theorem dX11_bars_192 : decode cX11_bars 192 = .ok (.invokevirtual 96, 3) := by decide +kernel
theorem dX11_bars_195 : decode cX11_bars 195 = .ok (.iload 6, 2) := by decide +kernel
theorem dX11_bars_197 : decode cX11_bars 197 = .ok (.isub, 1) := by decide +kernel
theorem dX11_bars_198 : decode cX11_bars 198 = .ok (.goto 10, 3) := by decide +kernel
theorem dX11_bars_201 : decode cX11_bars 201 = .ok (.aload_n 0, 1) := by decide +kernel
theorem dX11_bars_202 : decode cX11_bars 202 = .ok (.getfield 20, 3) := by decide +kernel
theorem dX11_bars_205 : decode cX11_bars 205 = .ok (.iload 8, 2) := by decide +kernel
theorem dX11_bars_207 : decode cX11_bars 207 = .ok (.iaload, 1) := by decide +kernel
theorem dX11_bars_208 : decode cX11_bars 208 = .ok (.iastore, 1) := by decide +kernel
theorem dX11_bars_209 : decode cX11_bars 209 = .ok (.aload_n 0, 1) := by decide +kernel
theorem dX11_bars_210 : decode cX11_bars 210 = .ok (.iload 8, 2) := by decide +kernel
theorem dX11_bars_212 : decode cX11_bars 212 = .ok (.iload 4, 2) := by decide +kernel
theorem dX11_bars_214 : decode cX11_bars 214 = .ok (.invokevirtual 96, 3) := by decide +kernel
theorem dX11_bars_217 : decode cX11_bars 217 = .ok (.aload_n 0, 1) := by decide +kernel
theorem dX11_bars_218 : decode cX11_bars 218 = .ok (.getfield 20, 3) := by decide +kernel
theorem dX11_bars_221 : decode cX11_bars 221 = .ok (.iload 8, 2) := by decide +kernel
theorem dX11_bars_223 : decode cX11_bars 223 = .ok (.iaload, 1) := by decide +kernel
theorem dX11_bars_224 : decode cX11_bars 224 = .ok (.isub, 1) := by decide +kernel
theorem dX11_bars_225 : decode cX11_bars 225 = .ok (.istore 9, 2) := by decide +kernel
theorem dX11_bars_227 : decode cX11_bars 227 = .ok (.iload 7, 2) := by decide +kernel
theorem dX11_bars_229 : decode cX11_bars 229 = .ok (.sipush 5000, 3) := by decide +kernel
theorem dX11_bars_232 : decode cX11_bars 232 = .ok (.if_icmp .ne 8, 3) := by decide +kernel
theorem dX11_bars_235 : decode cX11_bars 235 = .ok (.iload 9, 2) := by decide +kernel
theorem dX11_bars_237 : decode cX11_bars 237 = .ok (.goto 5, 3) := by decide +kernel
theorem dX11_bars_240 : decode cX11_bars 240 = .ok (.iload 7, 2) := by decide +kernel
theorem dX11_bars_242 : decode cX11_bars 242 = .ok (.istore 7, 2) := by decide +kernel
theorem dX11_bars_244 : decode cX11_bars 244 = .ok (.iload 9, 2) := by decide +kernel
theorem dX11_bars_246 : decode cX11_bars 246 = .ok (.iload 7, 2) := by decide +kernel
theorem dX11_bars_248 : decode cX11_bars 248 = .ok (.if_icmp .ne 7, 3) := by decide +kernel
theorem dX11_bars_251 : decode cX11_bars 251 = .ok (.iconst 1, 1) := by decide +kernel
theorem dX11_bars_252 : decode cX11_bars 252 = .ok (.goto 4, 3) := by decide +kernel
theorem dX11_bars_255 : decode cX11_bars 255 = .ok (.iconst 0, 1) := by decide +kernel
theorem dX11_bars_256 : decode cX11_bars 256 = .ok (.istore 5, 2) := by decide +kernel
theorem dX11_bars_258 : decode cX11_bars 258 = .ok (.iinc 8 1, 3) := by decide +kernel
theorem dX11_bars_261 : decode cX11_bars 261 = .ok (.goto (-108), 3) := by decide +kernel
theorem dX11_bars_264 : decode cX11_bars 264 = .ok (.iload 5, 2) := by decide +kernel
theorem dX11_bars_266 : decode cX11_bars 266 = .ok (.ifCond .ne 6, 3) := by decide +kernel
theorem dX11_bars_269 : decode cX11_bars 269 = .ok (.iload 4, 2) := by decide +kernel
theorem dX11_bars_271 : decode cX11_bars 271 = .ok (.ireturn, 1) := by decide +kernel
theorem dX11_bars_272 : decode cX11_bars 272 = .ok (.iinc 3 1, 3) := by decide +kernel
theorem dX11_bars_275 : decode cX11_bars 275 = .ok (.iinc 4 1, 3) := by decide +kernel
theorem dX11_bars_278 : decode cX11_bars 278 = .ok (.goto (-273), 3) := by decide +kernel
theorem dX11_bars_281 : decode cX11_bars 281 = .ok (.bipush (-4), 2) := by decide +kernel
theorem dX11_bars_283 : decode cX11_bars 283 = .ok (.ireturn, 1) := by decide +kernel
theorem dX11_together_0 : decode cX11_together 0 = .ok (.iload_n 1, 1) := by decide +kernel
theorem dX11_together_1 : decode cX11_together 1 = .ok (.i2l, 1) := by decide +kernel
theorem dX11_together_2 : decode cX11_together 2 = .ok (.lconst 1, 1) := by decide +kernel
theorem dX11_together_3 : decode cX11_together 3 = .ok (.iconst 1, 1) := by decide +kernel
theorem dX11_together_4 : decode cX11_together 4 = .ok (.aload_n 0, 1) := by decide +kernel
theorem dX11_together_5 : decode cX11_together 5 = .ok (.invokevirtual 82, 3) := by decide +kernel
theorem dX11_together_8 : decode cX11_together 8 = .ok (.ishl, 1) := by decide +kernel
theorem dX11_together_9 : decode cX11_together 9 = .ok (.iconst 1, 1) := by decide +kernel
theorem dX11_together_10 : decode cX11_together 10 = .ok (.isub, 1) := by decide +kernel
theorem dX11_together_11 : decode cX11_together 11 = .ok (.i2l, 1) := by decide +kernel
theorem dX11_together_12 : decode cX11_together 12 = .ok (.invokestatic 72, 3) := by decide +kernel
theorem dX11_together_15 : decode cX11_together 15 = .ok (.ifCond .eq 29, 3) := by decide +kernel
theorem dX11_together_18 : decode cX11_together 18 = .ok (.iload_n 2, 1) := by decide +kernel
theorem dX11_together_19 : decode cX11_together 19 = .ok (.i2l, 1) := by decide +kernel
theorem dX11_together_20 : decode cX11_together 20 = .ok (.lconst 0, 1) := by decide +kernel
theorem dX11_together_21 : decode cX11_together 21 = .ok (.ldc2_w 140, 3) := by decide +kernel
theorem dX11_together_24 : decode cX11_together 24 = .ok (.invokestatic 72, 3) := by decide +kernel
theorem dX11_together_27 : decode cX11_together 27 = .ok (.ifCond .eq 17, 3) := by decide +kernel
theorem dX11_together_30 : decode cX11_together 30 = .ok (.iload_n 2, 1) := by decide +kernel
theorem dX11_together_31 : decode cX11_together 31 = .ok (.bipush 8, 2) := by decide +kernel
theorem dX11_together_33 : decode cX11_together 33 = .ok (.if_icmp .ge 13, 3) := by decide +kernel
theorem dX11_together_36 : decode cX11_together 36 = .ok (.aload_n 0, 1) := by decide +kernel
theorem dX11_together_37 : decode cX11_together 37 = .ok (.iload_n 2, 1) := by decide +kernel
theorem dX11_together_38 : decode cX11_together 38 = .ok (.invokevirtual 86, 3) := by decide +kernel
theorem dX11_together_41 : decode cX11_together 41 = .ok (.ifCond .ne 5, 3) := by decide +kernel
theorem dX11_together_44 : decode cX11_together 44 = .ok (.iconst (-1), 1) := by decide +kernel
theorem dX11_together_45 : decode cX11_together 45 = .ok (.ireturn, 1) := by decide +kernel
theorem dX11_together_46 : decode cX11_together 46 = .ok (.aload_n 0, 1) := by decide +kernel
theorem dX11_together_47 : decode cX11_together 47 = .ok (.invokevirtual 126, 3) := by decide +kernel
theorem dX11_together_50 : decode cX11_together 50 = .ok (.iload_n 1, 1) := by decide +kernel
theorem dX11_together_51 : decode cX11_together 51 = .ok (.iconst (-1), 1) := by decide +kernel
theorem dX11_together_52 : decode cX11_together 52 = .ok (.ixor, 1) := by decide +kernel
theorem dX11_together_53 : decode cX11_together 53 = .ok (.iand, 1) := by decide +kernel
theorem dX11_together_54 : decode cX11_together 54 = .ok (.istore_n 3, 1) := by decide +kernel
theorem dX11_together_55 : decode cX11_together 55 = .ok (.iload_n 2, 1) := by decide +kernel
theorem dX11_together_56 : decode cX11_together 56 = .ok (.bipush 8, 2) := by decide +kernel
theorem dX11_together_58 : decode cX11_together 58 = .ok (.if_icmp .ge 14, 3) := by decide +kernel
theorem dX11_together_61 : decode cX11_together 61 = .ok (.iload_n 3, 1) := by decide +kernel
theorem dX11_together_62 : decode cX11_together 62 = .ok (.iload_n 2, 1) := by decide +kernel
theorem dX11_together_63 : decode cX11_together 63 = .ok (.ishr, 1) := by decide +kernel
theorem dX11_together_64 : decode cX11_together 64 = .ok (.iconst 1, 1) := by decide +kernel
theorem dX11_together_65 : decode cX11_together 65 = .ok (.iand, 1) := by decide +kernel
theorem dX11_together_66 : decode cX11_together 66 = .ok (.ifCond .ne 6, 3) := by decide +kernel
theorem dX11_together_69 : decode cX11_together 69 = .ok (.bipush (-2), 2) := by decide +kernel
theorem dX11_together_71 : decode cX11_together 71 = .ok (.ireturn, 1) := by decide +kernel
theorem dX11_together_72 : decode cX11_together 72 = .ok (.aload_n 0, 1) := by decide +kernel
theorem dX11_together_73 : decode cX11_together 73 = .ok (.iload_n 1, 1) := by decide +kernel
theorem dX11_together_74 : decode cX11_together 74 = .ok (.iload_n 3, 1) := by decide +kernel
theorem dX11_together_75 : decode cX11_together 75 = .ok (.invokevirtual 142, 3) := by decide +kernel
theorem dX11_together_78 : decode cX11_together 78 = .ok (.istore 4, 2) := by decide +kernel
theorem dX11_together_80 : decode cX11_together 80 = .ok (.iload_n 2, 1) := by decide +kernel
theorem dX11_together_81 : decode cX11_together 81 = .ok (.bipush 8, 2) := by decide +kernel
theorem dX11_together_83 : decode cX11_together 83 = .ok (.if_icmp .ne 8, 3) := by decide +kernel
theorem dX11_together_86 : decode cX11_together 86 = .ok (.iload 4, 2) := by decide +kernel
theorem dX11_together_88 : decode cX11_together 88 = .ok (.goto 19, 3) := by decide +kernel
theorem dX11_together_91 : decode cX11_together 91 = .ok (.iload 4, 2) := by decide +kernel
theorem dX11_together_93 : decode cX11_together 93 = .ok (.ifCond .ge 12, 3) := by decide +kernel
theorem dX11_together_96 : decode cX11_together 96 = .ok (.aload_n 0, 1) := by decide +kernel
theorem dX11_together_97 : decode cX11_together 97 = .ok (.getfield 20, 3) := by decide +kernel
theorem dX11_together_100 : decode cX11_together 100 = .ok (.iload_n 2, 1) := by decide +kernel
theorem dX11_together_101 : decode cX11_together 101 = .ok (.iaload, 1) := by decide +kernel
theorem dX11_together_102 : decode cX11_together 102 = .ok (.goto 5, 3) := by decide +kernel
theorem dX11_together_105 : decode cX11_together 105 = .ok (.bipush (-4), 2) := by decide +kernel
theorem dX11_together_107 : decode cX11_together 107 = .ok (.ireturn, 1) := by decide +kernel
theorem dX11_type_0 : decode cX11_type 0 = .ok (.iload_n 3, 1) := by decide +kernel
theorem dX11_type_1 : decode cX11_type 1 = .ok (.i2l, 1) := by decide +kernel
theorem dX11_type_2 : decode cX11_type 2 = .ok (.lconst 1, 1) := by decide +kernel
theorem dX11_type_3 : decode cX11_type 3 = .ok (.ldc2_w 140, 3) := by decide +kernel
theorem dX11_type_6 : decode cX11_type 6 = .ok (.invokestatic 72, 3) := by decide +kernel
theorem dX11_type_9 : decode cX11_type 9 = .ok (.ifCond .ne 5, 3) := by decide +kernel
theorem dX11_type_12 : decode cX11_type 12 = .ok (.iconst (-1), 1) := by decide +kernel
theorem dX11_type_13 : decode cX11_type 13 = .ok (.ireturn, 1) := by decide +kernel
theorem dX11_type_14 : decode cX11_type 14 = .ok (.iconst 0, 1) := by decide +kernel
theorem dX11_type_15 : decode cX11_type 15 = .ok (.istore 4, 2) := by decide +kernel
theorem dX11_type_17 : decode cX11_type 17 = .ok (.iload 4, 2) := by decide +kernel
theorem dX11_type_19 : decode cX11_type 19 = .ok (.iload_n 3, 1) := by decide +kernel
theorem dX11_type_20 : decode cX11_type 20 = .ok (.if_icmp .ge 34, 3) := by decide +kernel
theorem dX11_type_23 : decode cX11_type 23 = .ok (.lload_n 1, 1) := by decide +kernel
theorem dX11_type_24 : decode cX11_type 24 = .ok (.bipush 8, 2) := by decide +kernel
theorem dX11_type_26 : decode cX11_type 26 = .ok (.iload 4, 2) := by decide +kernel
theorem dX11_type_28 : decode cX11_type 28 = .ok (.imul, 1) := by decide +kernel
theorem dX11_type_29 : decode cX11_type 29 = .ok (.lshr, 1) := by decide +kernel
theorem dX11_type_30 : decode cX11_type 30 = .ok (.ldc2_w 145, 3) := by decide +kernel
theorem dX11_type_33 : decode cX11_type 33 = .ok (.land, 1) := by decide +kernel
theorem dX11_type_34 : decode cX11_type 34 = .ok (.ldc2_w 147, 3) := by decide +kernel
theorem dX11_type_37 : decode cX11_type 37 = .ok (.ldc2_w 149, 3) := by decide +kernel
theorem dX11_type_40 : decode cX11_type 40 = .ok (.invokestatic 72, 3) := by decide +kernel
theorem dX11_type_43 : decode cX11_type 43 = .ok (.ifCond .ne 5, 3) := by decide +kernel
theorem dX11_type_46 : decode cX11_type 46 = .ok (.iconst (-1), 1) := by decide +kernel
theorem dX11_type_47 : decode cX11_type 47 = .ok (.ireturn, 1) := by decide +kernel
theorem dX11_type_48 : decode cX11_type 48 = .ok (.iinc 4 1, 3) := by decide +kernel
theorem dX11_type_51 : decode cX11_type 51 = .ok (.goto (-34), 3) := by decide +kernel
theorem dX11_type_54 : decode cX11_type 54 = .ok (.aload_n 0, 1) := by decide +kernel
theorem dX11_type_55 : decode cX11_type 55 = .ok (.getfield 151, 3) := by decide +kernel
theorem dX11_type_58 : decode cX11_type 58 = .ok (.iload_n 3, 1) := by decide +kernel
theorem dX11_type_59 : decode cX11_type 59 = .ok (.iadd, 1) := by decide +kernel
theorem dX11_type_60 : decode cX11_type 60 = .ok (.bipush 120, 2) := by decide +kernel
theorem dX11_type_62 : decode cX11_type 62 = .ok (.if_icmp .le 6, 3) := by decide +kernel
theorem dX11_type_65 : decode cX11_type 65 = .ok (.bipush (-3), 2) := by decide +kernel
theorem dX11_type_67 : decode cX11_type 67 = .ok (.ireturn, 1) := by decide +kernel
theorem dX11_type_68 : decode cX11_type 68 = .ok (.iload_n 3, 1) := by decide +kernel
theorem dX11_type_69 : decode cX11_type 69 = .ok (.iconst 1, 1) := by decide +kernel
theorem dX11_type_70 : decode cX11_type 70 = .ok (.isub, 1) := by decide +kernel
theorem dX11_type_71 : decode cX11_type 71 = .ok (.istore 4, 2) := by decide +kernel
theorem dX11_type_73 : decode cX11_type 73 = .ok (.iload 4, 2) := by decide +kernel
theorem dX11_type_75 : decode cX11_type 75 = .ok (.ifCond .lt 40, 3) := by decide +kernel
theorem dX11_type_78 : decode cX11_type 78 = .ok (.aload_n 0, 1) := by decide +kernel
theorem dX11_type_79 : decode cX11_type 79 = .ok (.getfield 23, 3) := by decide +kernel
theorem dX11_type_82 : decode cX11_type 82 = .ok (.aload_n 0, 1) := by decide +kernel
theorem dX11_type_83 : decode cX11_type 83 = .ok (.getfield 151, 3) := by decide +kernel
theorem dX11_type_86 : decode cX11_type 86 = .ok (.lload_n 1, 1) := by decide +kernel
theorem dX11_type_87 : decode cX11_type 87 = .ok (.bipush 8, 2) := by decide +kernel
theorem dX11_type_89 : decode cX11_type 89 = .ok (.iload 4, 2) := by decide +kernel
theorem dX11_type_91 : decode cX11_type 91 = .ok (.imul, 1) := by decide +kernel
theorem dX11_type_92 : decode cX11_type 92 = .ok (.lshr, 1) := by decide +kernel
theorem dX11_type_93 : decode cX11_type 93 = .ok (.ldc2_w 145, 3) := by decide +kernel
theorem dX11_type_96 : decode cX11_type 96 = .ok (.land, 1) := by decide +kernel
theorem dX11_type_97 : decode cX11_type 97 = .ok (.l2i, 1) := by decide +kernel
theorem dX11_type_98 : decode cX11_type 98 = .ok (.iastore, 1) := by decide +kernel
theorem dX11_type_99 : decode cX11_type 99 = .ok (.aload_n 0, 1) := by decide +kernel
theorem dX11_type_100 : decode cX11_type 100 = .ok (.dup, 1) := by decide +kernel
theorem dX11_type_101 : decode cX11_type 101 = .ok (.getfield 151, 3) := by decide +kernel
theorem dX11_type_104 : decode cX11_type 104 = .ok (.iconst 1, 1) := by decide +kernel
theorem dX11_type_105 : decode cX11_type 105 = .ok (.iadd, 1) := by decide +kernel
theorem dX11_type_106 : decode cX11_type 106 = .ok (.putfield 151, 3) := by decide +kernel
theorem dX11_type_109 : decode cX11_type 109 = .ok (.iinc 4 (-1), 3) := by decide +kernel
theorem dX11_type_112 : decode cX11_type 112 = .ok (.goto (-39), 3) := by decide +kernel
theorem dX11_type_115 : decode cX11_type 115 = .ok (.aload_n 0, 1) := by decide +kernel
theorem dX11_type_116 : decode cX11_type 116 = .ok (.getfield 151, 3) := by decide +kernel
theorem dX11_type_119 : decode cX11_type 119 = .ok (.ireturn, 1) := by decide +kernel
theorem dX11_next_0 : decode cX11_next 0 = .ok (.aload_n 0, 1) := by decide +kernel
theorem dX11_next_1 : decode cX11_next 1 = .ok (.getfield 155, 3) := by decide +kernel
theorem dX11_next_4 : decode cX11_next 4 = .ok (.aload_n 0, 1) := by decide +kernel
theorem dX11_next_5 : decode cX11_next 5 = .ok (.getfield 151, 3) := by decide +kernel
theorem dX11_next_8 : decode cX11_next 8 = .ok (.if_icmp .ge 30, 3) := by decide +kernel
theorem dX11_next_11 : decode cX11_next 11 = .ok (.aload_n 0, 1) := by decide +kernel
theorem dX11_next_12 : decode cX11_next 12 = .ok (.getfield 23, 3) := by decide +kernel
theorem dX11_next_15 : decode cX11_next 15 = .ok (.aload_n 0, 1) := by decide +kernel
theorem dX11_next_16 : decode cX11_next 16 = .ok (.getfield 155, 3) := by decide +kernel
theorem dX11_next_19 : decode cX11_next 19 = .ok (.iaload, 1) := by decide +kernel
theorem dX11_next_20 : decode cX11_next 20 = .ok (.bipush 32, 2) := by decide +kernel
theorem dX11_next_22 : decode cX11_next 22 = .ok (.if_icmp .ne 16, 3) := by decide +kernel
theorem dX11_next_25 : decode cX11_next 25 = .ok (.aload_n 0, 1) := by decide +kernel
theorem dX11_next_26 : decode cX11_next 26 = .ok (.dup, 1) := by decide +kernel
theorem dX11_next_27 : decode cX11_next 27 = .ok (.getfield 155, 3) := by decide +kernel
theorem dX11_next_30 : decode cX11_next 30 = .ok (.iconst 1, 1) := by decide +kernel
theorem dX11_next_31 : decode cX11_next 31 = .ok (.iadd, 1) := by decide +kernel
theorem dX11_next_32 : decode cX11_next 32 = .ok (.putfield 155, 3) := by decide +kernel
theorem dX11_next_35 : decode cX11_next 35 = .ok (.goto (-35), 3) := by decide +kernel
theorem dX11_next_38 : decode cX11_next 38 = .ok (.aload_n 0, 1) := by decide +kernel
theorem dX11_next_39 : decode cX11_next 39 = .ok (.getfield 155, 3) := by decide +kernel
theorem dX11_next_42 : decode cX11_next 42 = .ok (.aload_n 0, 1) := by decide +kernel
theorem dX11_next_43 : decode cX11_next 43 = .ok (.getfield 151, 3) := by decide +kernel
theorem dX11_next_46 : decode cX11_next 46 = .ok (.if_icmp .ge 15, 3) := by decide +kernel
theorem dX11_next_49 : decode cX11_next 49 = .ok (.aload_n 0, 1) := by decide +kernel
theorem dX11_next_50 : decode cX11_next 50 = .ok (.getfield 23, 3) := by decide +kernel
theorem dX11_next_53 : decode cX11_next 53 = .ok (.aload_n 0, 1) := by decide +kernel
theorem dX11_next_54 : decode cX11_next 54 = .ok (.getfield 155, 3) := by decide +kernel
theorem dX11_next_57 : decode cX11_next 57 = .ok (.iaload, 1) := by decide +kernel
theorem dX11_next_58 : decode cX11_next 58 = .ok (.goto 4, 3) := by decide +kernel
theorem dX11_next_61 : decode cX11_next 61 = .ok (.iconst 0, 1) := by decide +kernel
theorem dX11_next_62 : decode cX11_next 62 = .ok (.ireturn, 1) := by decide +kernel
theorem dX11_reads_0 : decode cX11_reads 0 = .ok (.aload_n 0, 1) := by decide +kernel
theorem dX11_reads_1 : decode cX11_reads 1 = .ok (.invokevirtual 158, 3) := by decide +kernel
theorem dX11_reads_4 : decode cX11_reads 4 = .ok (.istore_n 3, 1) := by decide +kernel
theorem dX11_reads_5 : decode cX11_reads 5 = .ok (.aload_n 0, 1) := by decide +kernel
theorem dX11_reads_6 : decode cX11_reads 6 = .ok (.getfield 155, 3) := by decide +kernel
theorem dX11_reads_9 : decode cX11_reads 9 = .ok (.istore 4, 2) := by decide +kernel
theorem dX11_reads_11 : decode cX11_reads 11 = .ok (.iload_n 3, 1) := by decide +kernel
theorem dX11_reads_12 : decode cX11_reads 12 = .ok (.i2l, 1) := by decide +kernel
theorem dX11_reads_13 : decode cX11_reads 13 = .ok (.ldc2_w 161, 3) := by decide +kernel
theorem dX11_reads_16 : decode cX11_reads 16 = .ok (.ldc2_w 163, 3) := by decide +kernel
theorem dX11_reads_19 : decode cX11_reads 19 = .ok (.invokestatic 72, 3) := by decide +kernel
theorem dX11_reads_22 : decode cX11_reads 22 = .ok (.ifCond .eq 10, 3) := by decide +kernel
theorem dX11_reads_25 : decode cX11_reads 25 = .ok (.iload_n 3, 1) := by decide +kernel
theorem dX11_reads_26 : decode cX11_reads 26 = .ok (.bipush 96, 2) := by decide +kernel
theorem dX11_reads_28 : decode cX11_reads 28 = .ok (.isub, 1) := by decide +kernel
theorem dX11_reads_29 : decode cX11_reads 29 = .ok (.goto 4, 3) := by decide +kernel
theorem dX11_reads_32 : decode cX11_reads 32 = .ok (.iconst 0, 1) := by decide +kernel
theorem dX11_reads_33 : decode cX11_reads 33 = .ok (.istore 5, 2) := by decide +kernel
theorem dX11_reads_35 : decode cX11_reads 35 = .ok (.iload 5, 2) := by decide +kernel
theorem dX11_reads_37 : decode cX11_reads 37 = .ok (.ifCond .ne 9, 3) := by decide +kernel
theorem dX11_reads_40 : decode cX11_reads 40 = .ok (.iload_n 3, 1) := by decide +kernel
theorem dX11_reads_41 : decode cX11_reads 41 = .ok (.bipush 45, 2) := by decide +kernel
theorem dX11_reads_43 : decode cX11_reads 43 = .ok (.if_icmp .ne 9, 3) := by decide +kernel
theorem dX11_reads_46 : decode cX11_reads 46 = .ok (.iload_n 2, 1) := by decide +kernel
theorem dX11_reads_47 : decode cX11_reads 47 = .ok (.bipush 40, 2) := by decide +kernel
theorem dX11_reads_49 : decode cX11_reads 49 = .ok (.if_icmp .ne 5, 3) := by decide +kernel
theorem dX11_reads_52 : decode cX11_reads 52 = .ok (.iconst (-1), 1) := by decide +kernel
theorem dX11_reads_53 : decode cX11_reads 53 = .ok (.ireturn, 1) := by decide +kernel
theorem dX11_reads_54 : decode cX11_reads 54 = .ok (.aload_n 0, 1) := by decide +kernel
theorem dX11_reads_55 : decode cX11_reads 55 = .ok (.dup, 1) := by decide +kernel
theorem dX11_reads_56 : decode cX11_reads 56 = .ok (.getfield 155, 3) := by decide +kernel
theorem dX11_reads_59 : decode cX11_reads 59 = .ok (.iconst 1, 1) := by decide +kernel
theorem dX11_reads_60 : decode cX11_reads 60 = .ok (.iadd, 1) := by decide +kernel
theorem dX11_reads_61 : decode cX11_reads 61 = .ok (.putfield 155, 3) := by decide +kernel
theorem dX11_reads_64 : decode cX11_reads 64 = .ok (.iconst 1, 1) := by decide +kernel
theorem dX11_reads_65 : decode cX11_reads 65 = .ok (.istore 6, 2) := by decide +kernel
theorem dX11_reads_67 : decode cX11_reads 67 = .ok (.aload_n 0, 1) := by decide +kernel
theorem dX11_reads_68 : decode cX11_reads 68 = .ok (.invokevirtual 158, 3) := by decide +kernel
theorem dX11_reads_71 : decode cX11_reads 71 = .ok (.i2l, 1) := by decide +kernel
theorem dX11_reads_72 : decode cX11_reads 72 = .ok (.ldc2_w 165, 3) := by decide +kernel
theorem dX11_reads_75 : decode cX11_reads 75 = .ok (.ldc2_w 167, 3) := by decide +kernel
theorem dX11_reads_78 : decode cX11_reads 78 = .ok (.invokestatic 72, 3) := by decide +kernel
theorem dX11_reads_81 : decode cX11_reads 81 = .ok (.ifCond .eq 22, 3) := by decide +kernel
theorem dX11_reads_84 : decode cX11_reads 84 = .ok (.aload_n 0, 1) := by decide +kernel
theorem dX11_reads_85 : decode cX11_reads 85 = .ok (.invokevirtual 158, 3) := by decide +kernel
theorem dX11_reads_88 : decode cX11_reads 88 = .ok (.bipush 48, 2) := by decide +kernel
theorem dX11_reads_90 : decode cX11_reads 90 = .ok (.isub, 1) := by decide +kernel
theorem dX11_reads_91 : decode cX11_reads 91 = .ok (.istore 6, 2) := by decide +kernel
theorem dX11_reads_93 : decode cX11_reads 93 = .ok (.aload_n 0, 1) := by decide +kernel
theorem dX11_reads_94 : decode cX11_reads 94 = .ok (.dup, 1) := by decide +kernel
theorem dX11_reads_95 : decode cX11_reads 95 = .ok (.getfield 155, 3) := by decide +kernel
theorem dX11_reads_98 : decode cX11_reads 98 = .ok (.iconst 1, 1) := by decide +kernel
theorem dX11_reads_99 : decode cX11_reads 99 = .ok (.iadd, 1) := by decide +kernel
theorem dX11_reads_100 : decode cX11_reads 100 = .ok (.putfield 155, 3) := by decide +kernel
theorem dX11_reads_103 : decode cX11_reads 103 = .ok (.iload_n 1, 1) := by decide +kernel
theorem dX11_reads_104 : decode cX11_reads 104 = .ok (.iload 6, 2) := by decide +kernel
theorem dX11_reads_106 : decode cX11_reads 106 = .ok (.iadd, 1) := by decide +kernel
theorem dX11_reads_107 : decode cX11_reads 107 = .ok (.bipush 64, 2) := by decide +kernel
theorem dX11_reads_109 : decode cX11_reads 109 = .ok (.if_icmp .le 11, 3) := by decide +kernel
theorem dX11_reads_112 : decode cX11_reads 112 = .ok (.aload_n 0, 1) := by decide +kernel
theorem dX11_reads_113 : decode cX11_reads 113 = .ok (.iload 4, 2) := by decide +kernel
theorem dX11_reads_115 : decode cX11_reads 115 = .ok (.putfield 155, 3) := by decide +kernel
theorem dX11_reads_118 : decode cX11_reads 118 = .ok (.iconst (-1), 1) := by decide +kernel
theorem dX11_reads_119 : decode cX11_reads 119 = .ok (.ireturn, 1) := by decide +kernel
theorem dX11_reads_120 : decode cX11_reads 120 = .ok (.iconst 0, 1) := by decide +kernel
theorem dX11_reads_121 : decode cX11_reads 121 = .ok (.istore 7, 2) := by decide +kernel
theorem dX11_reads_123 : decode cX11_reads 123 = .ok (.iload 7, 2) := by decide +kernel
theorem dX11_reads_125 : decode cX11_reads 125 = .ok (.iload 6, 2) := by decide +kernel
theorem dX11_reads_127 : decode cX11_reads 127 = .ok (.if_icmp .ge 20, 3) := by decide +kernel
theorem dX11_reads_130 : decode cX11_reads 130 = .ok (.aload_n 0, 1) := by decide +kernel
theorem dX11_reads_131 : decode cX11_reads 131 = .ok (.getfield 26, 3) := by decide +kernel
theorem dX11_reads_134 : decode cX11_reads 134 = .ok (.iload_n 1, 1) := by decide +kernel
theorem dX11_reads_135 : decode cX11_reads 135 = .ok (.iload 7, 2) := by decide +kernel
theorem dX11_reads_137 : decode cX11_reads 137 = .ok (.iadd, 1) := by decide +kernel
theorem dX11_reads_138 : decode cX11_reads 138 = .ok (.iload 5, 2) := by decide +kernel
theorem dX11_reads_140 : decode cX11_reads 140 = .ok (.iastore, 1) := by decide +kernel
theorem dX11_reads_141 : decode cX11_reads 141 = .ok (.iinc 7 1, 3) := by decide +kernel
theorem dX11_reads_144 : decode cX11_reads 144 = .ok (.goto (-21), 3) := by decide +kernel
theorem dX11_reads_147 : decode cX11_reads 147 = .ok (.aload_n 0, 1) := by decide +kernel
theorem dX11_reads_148 : decode cX11_reads 148 = .ok (.invokevirtual 158, 3) := by decide +kernel
theorem dX11_reads_151 : decode cX11_reads 151 = .ok (.bipush 46, 2) := by decide +kernel
theorem dX11_reads_153 : decode cX11_reads 153 = .ok (.if_icmp .ne 29, 3) := by decide +kernel
theorem dX11_reads_156 : decode cX11_reads 156 = .ok (.aload_n 0, 1) := by decide +kernel
theorem dX11_reads_157 : decode cX11_reads 157 = .ok (.getfield 26, 3) := by decide +kernel
theorem dX11_reads_160 : decode cX11_reads 160 = .ok (.iload_n 1, 1) := by decide +kernel
theorem dX11_reads_161 : decode cX11_reads 161 = .ok (.iload 6, 2) := by decide +kernel
theorem dX11_reads_163 : decode cX11_reads 163 = .ok (.iadd, 1) := by decide +kernel
theorem dX11_reads_164 : decode cX11_reads 164 = .ok (.iconst 1, 1) := by decide +kernel
theorem dX11_reads_165 : decode cX11_reads 165 = .ok (.isub, 1) := by decide +kernel
theorem dX11_reads_166 : decode cX11_reads 166 = .ok (.dup2, 1) := by decide +kernel
theorem dX11_reads_167 : decode cX11_reads 167 = .ok (.iaload, 1) := by decide +kernel
theorem dX11_reads_168 : decode cX11_reads 168 = .ok (.bipush 10, 2) := by decide +kernel
theorem dX11_reads_170 : decode cX11_reads 170 = .ok (.iadd, 1) := by decide +kernel
theorem dX11_reads_171 : decode cX11_reads 171 = .ok (.iastore, 1) := by decide +kernel
theorem dX11_reads_172 : decode cX11_reads 172 = .ok (.aload_n 0, 1) := by decide +kernel
theorem dX11_reads_173 : decode cX11_reads 173 = .ok (.dup, 1) := by decide +kernel
theorem dX11_reads_174 : decode cX11_reads 174 = .ok (.getfield 155, 3) := by decide +kernel
theorem dX11_reads_177 : decode cX11_reads 177 = .ok (.iconst 1, 1) := by decide +kernel
theorem dX11_reads_178 : decode cX11_reads 178 = .ok (.iadd, 1) := by decide +kernel
theorem dX11_reads_179 : decode cX11_reads 179 = .ok (.putfield 155, 3) := by decide +kernel
theorem dX11_reads_182 : decode cX11_reads 182 = .ok (.iload_n 1, 1) := by decide +kernel
theorem dX11_reads_183 : decode cX11_reads 183 = .ok (.iload 6, 2) := by decide +kernel
theorem dX11_reads_185 : decode cX11_reads 185 = .ok (.iadd, 1) := by decide +kernel
theorem dX11_reads_186 : decode cX11_reads 186 = .ok (.ireturn, 1) := by decide +kernel
theorem dX11_piece_0 : decode cX11_piece 0 = .ok (.aload_n 0, 1) := by decide +kernel
theorem dX11_piece_1 : decode cX11_piece 1 = .ok (.iconst 0, 1) := by decide +kernel
theorem dX11_piece_2 : decode cX11_piece 2 = .ok (.putfield 155, 3) := by decide +kernel
theorem dX11_piece_5 : decode cX11_piece 5 = .ok (.iconst 0, 1) := by decide +kernel
theorem dX11_piece_6 : decode cX11_piece 6 = .ok (.istore_n 1, 1) := by decide +kernel
theorem dX11_piece_7 : decode cX11_piece 7 = .ok (.iconst 0, 1) := by decide +kernel
theorem dX11_piece_8 : decode cX11_piece 8 = .ok (.istore_n 2, 1) := by decide +kernel
theorem dX11_piece_9 : decode cX11_piece 9 = .ok (.iconst 1, 1) := by decide +kernel
theorem dX11_piece_10 : decode cX11_piece 10 = .ok (.istore_n 3, 1) := by decide +kernel
theorem dX11_piece_11 : decode cX11_piece 11 = .ok (.iload_n 3, 1) := by decide +kernel
theorem dX11_piece_12 : decode cX11_piece 12 = .ok (.ifCond .eq 33, 3) := by decide +kernel
theorem dX11_piece_15 : decode cX11_piece 15 = .ok (.aload_n 0, 1) := by decide +kernel
theorem dX11_piece_16 : decode cX11_piece 16 = .ok (.iload_n 1, 1) := by decide +kernel
theorem dX11_piece_17 : decode cX11_piece 17 = .ok (.iload_n 2, 1) := by decide +kernel
theorem dX11_piece_18 : decode cX11_piece 18 = .ok (.invokevirtual 169, 3) := by decide +kernel
theorem dX11_piece_21 : decode cX11_piece 21 = .ok (.istore_n 1, 1) := by decide +kernel
theorem dX11_piece_22 : decode cX11_piece 22 = .ok (.iinc 2 1, 3) := by decide +kernel
theorem dX11_piece_25 : decode cX11_piece 25 = .ok (.iload_n 1, 1) := by decide +kernel
theorem dX11_piece_26 : decode cX11_piece 26 = .ok (.ifCond .lt 14, 3) := by decide +kernel
theorem dX11_piece_29 : decode cX11_piece 29 = .ok (.aload_n 0, 1) := by decide +kernel
theorem dX11_piece_30 : decode cX11_piece 30 = .ok (.invokevirtual 158, 3) := by decide +kernel
theorem dX11_piece_33 : decode cX11_piece 33 = .ok (.ifCond .eq 7, 3) := by decide +kernel
theorem dX11_piece_36 : decode cX11_piece 36 = .ok (.iconst 1, 1) := by decide +kernel
theorem dX11_piece_37 : decode cX11_piece 37 = .ok (.goto 4, 3) := by decide +kernel
theorem dX11_piece_40 : decode cX11_piece 40 = .ok (.iconst 0, 1) := by decide +kernel
theorem dX11_piece_41 : decode cX11_piece 41 = .ok (.istore_n 3, 1) := by decide +kernel
theorem dX11_piece_42 : decode cX11_piece 42 = .ok (.goto (-31), 3) := by decide +kernel
theorem dX11_piece_45 : decode cX11_piece 45 = .ok (.aload_n 0, 1) := by decide +kernel
theorem dX11_piece_46 : decode cX11_piece 46 = .ok (.iconst 0, 1) := by decide +kernel
theorem dX11_piece_47 : decode cX11_piece 47 = .ok (.putfield 151, 3) := by decide +kernel
theorem dX11_piece_50 : decode cX11_piece 50 = .ok (.iload_n 1, 1) := by decide +kernel
theorem dX11_piece_51 : decode cX11_piece 51 = .ok (.ifCond .ge 11, 3) := by decide +kernel
theorem dX11_piece_54 : decode cX11_piece 54 = .ok (.bipush (-20), 2) := by decide +kernel
theorem dX11_piece_56 : decode cX11_piece 56 = .ok (.aload_n 0, 1) := by decide +kernel
theorem dX11_piece_57 : decode cX11_piece 57 = .ok (.getfield 155, 3) := by decide +kernel
theorem dX11_piece_60 : decode cX11_piece 60 = .ok (.isub, 1) := by decide +kernel
theorem dX11_piece_61 : decode cX11_piece 61 = .ok (.ireturn, 1) := by decide +kernel
theorem dX11_piece_62 : decode cX11_piece 62 = .ok (.iconst 0, 1) := by decide +kernel
theorem dX11_piece_63 : decode cX11_piece 63 = .ok (.istore 4, 2) := by decide +kernel
theorem dX11_piece_65 : decode cX11_piece 65 = .ok (.iload 4, 2) := by decide +kernel
theorem dX11_piece_67 : decode cX11_piece 67 = .ok (.iload_n 1, 1) := by decide +kernel
theorem dX11_piece_68 : decode cX11_piece 68 = .ok (.if_icmp .ge 27, 3) := by decide +kernel
theorem dX11_piece_71 : decode cX11_piece 71 = .ok (.aload_n 0, 1) := by decide +kernel
theorem dX11_piece_72 : decode cX11_piece 72 = .ok (.getfield 7, 3) := by decide +kernel
theorem dX11_piece_75 : decode cX11_piece 75 = .ok (.sipush 136, 3) := by decide +kernel
theorem dX11_piece_78 : decode cX11_piece 78 = .ok (.iload 4, 2) := by decide +kernel
theorem dX11_piece_80 : decode cX11_piece 80 = .ok (.iadd, 1) := by decide +kernel
theorem dX11_piece_81 : decode cX11_piece 81 = .ok (.aload_n 0, 1) := by decide +kernel
theorem dX11_piece_82 : decode cX11_piece 82 = .ok (.getfield 26, 3) := by decide +kernel
theorem dX11_piece_85 : decode cX11_piece 85 = .ok (.iload 4, 2) := by decide +kernel
theorem dX11_piece_87 : decode cX11_piece 87 = .ok (.iaload, 1) := by decide +kernel
theorem dX11_piece_88 : decode cX11_piece 88 = .ok (.iastore, 1) := by decide +kernel
theorem dX11_piece_89 : decode cX11_piece 89 = .ok (.iinc 4 1, 3) := by decide +kernel
theorem dX11_piece_92 : decode cX11_piece 92 = .ok (.goto (-27), 3) := by decide +kernel
theorem dX11_piece_95 : decode cX11_piece 95 = .ok (.aload_n 0, 1) := by decide +kernel
theorem dX11_piece_96 : decode cX11_piece 96 = .ok (.getfield 7, 3) := by decide +kernel
theorem dX11_piece_99 : decode cX11_piece 99 = .ok (.sipush 130, 3) := by decide +kernel
theorem dX11_piece_102 : decode cX11_piece 102 = .ok (.iload_n 1, 1) := by decide +kernel
theorem dX11_piece_103 : decode cX11_piece 103 = .ok (.iastore, 1) := by decide +kernel
theorem dX11_piece_104 : decode cX11_piece 104 = .ok (.iload_n 1, 1) := by decide +kernel
theorem dX11_piece_105 : decode cX11_piece 105 = .ok (.ireturn, 1) := by decide +kernel
theorem dX11_sound_0 : decode cX11_sound 0 = .ok (.iload_n 1, 1) := by decide +kernel
theorem dX11_sound_1 : decode cX11_sound 1 = .ok (.i2l, 1) := by decide +kernel
theorem dX11_sound_2 : decode cX11_sound 2 = .ok (.lconst 0, 1) := by decide +kernel
theorem dX11_sound_3 : decode cX11_sound 3 = .ok (.aload_n 0, 1) := by decide +kernel
theorem dX11_sound_4 : decode cX11_sound 4 = .ok (.getfield 7, 3) := by decide +kernel
theorem dX11_sound_7 : decode cX11_sound 7 = .ok (.sipush 130, 3) := by decide +kernel
theorem dX11_sound_10 : decode cX11_sound 10 = .ok (.iaload, 1) := by decide +kernel
theorem dX11_sound_11 : decode cX11_sound 11 = .ok (.iconst 1, 1) := by decide +kernel
theorem dX11_sound_12 : decode cX11_sound 12 = .ok (.isub, 1) := by decide +kernel
theorem dX11_sound_13 : decode cX11_sound 13 = .ok (.i2l, 1) := by decide +kernel
theorem dX11_sound_14 : decode cX11_sound 14 = .ok (.invokestatic 72, 3) := by decide +kernel
theorem dX11_sound_17 : decode cX11_sound 17 = .ok (.ifCond .eq 16, 3) := by decide +kernel
theorem dX11_sound_20 : decode cX11_sound 20 = .ok (.aload_n 0, 1) := by decide +kernel
theorem dX11_sound_21 : decode cX11_sound 21 = .ok (.getfield 7, 3) := by decide +kernel
theorem dX11_sound_24 : decode cX11_sound 24 = .ok (.sipush 136, 3) := by decide +kernel
theorem dX11_sound_27 : decode cX11_sound 27 = .ok (.iload_n 1, 1) := by decide +kernel
theorem dX11_sound_28 : decode cX11_sound 28 = .ok (.iadd, 1) := by decide +kernel
theorem dX11_sound_29 : decode cX11_sound 29 = .ok (.iaload, 1) := by decide +kernel
theorem dX11_sound_30 : decode cX11_sound 30 = .ok (.goto 4, 3) := by decide +kernel
theorem dX11_sound_33 : decode cX11_sound 33 = .ok (.iconst (-1), 1) := by decide +kernel
theorem dX11_sound_34 : decode cX11_sound 34 = .ok (.ireturn, 1) := by decide +kernel
theorem dX11_fit_0 : decode cX11_fit 0 = .ok (.iload_n 1, 1) := by decide +kernel
theorem dX11_fit_1 : decode cX11_fit 1 = .ok (.i2l, 1) := by decide +kernel
theorem dX11_fit_2 : decode cX11_fit 2 = .ok (.lconst 0, 1) := by decide +kernel
theorem dX11_fit_3 : decode cX11_fit 3 = .ok (.ldc2_w 172, 3) := by decide +kernel
theorem dX11_fit_6 : decode cX11_fit 6 = .ok (.invokestatic 72, 3) := by decide +kernel
theorem dX11_fit_9 : decode cX11_fit 9 = .ok (.ifCond .ne 5, 3) := by decide +kernel
theorem dX11_fit_12 : decode cX11_fit 12 = .ok (.iconst (-1), 1) := by decide +kernel
theorem dX11_fit_13 : decode cX11_fit 13 = .ok (.ireturn, 1) := by decide +kernel
theorem dX11_fit_14 : decode cX11_fit 14 = .ok (.aload_n 0, 1) := by decide +kernel
theorem dX11_fit_15 : decode cX11_fit 15 = .ok (.getfield 7, 3) := by decide +kernel
theorem dX11_fit_18 : decode cX11_fit 18 = .ok (.sipush 129, 3) := by decide +kernel
theorem dX11_fit_21 : decode cX11_fit 21 = .ok (.iaload, 1) := by decide +kernel
theorem dX11_fit_22 : decode cX11_fit 22 = .ok (.istore_n 2, 1) := by decide +kernel
theorem dX11_fit_23 : decode cX11_fit 23 = .ok (.aload_n 0, 1) := by decide +kernel
theorem dX11_fit_24 : decode cX11_fit 24 = .ok (.getfield 7, 3) := by decide +kernel
theorem dX11_fit_27 : decode cX11_fit 27 = .ok (.sipush 129, 3) := by decide +kernel
theorem dX11_fit_30 : decode cX11_fit 30 = .ok (.iload_n 1, 1) := by decide +kernel
theorem dX11_fit_31 : decode cX11_fit 31 = .ok (.iastore, 1) := by decide +kernel
theorem dX11_fit_32 : decode cX11_fit 32 = .ok (.iload_n 2, 1) := by decide +kernel
theorem dX11_fit_33 : decode cX11_fit 33 = .ok (.ireturn, 1) := by decide +kernel
theorem dX11_clashesAt_0 : decode cX11_clashesAt 0 = .ok (.iconst 0, 1) := by decide +kernel
theorem dX11_clashesAt_1 : decode cX11_clashesAt 1 = .ok (.istore_n 2, 1) := by decide +kernel
theorem dX11_clashesAt_2 : decode cX11_clashesAt 2 = .ok (.iload_n 1, 1) := by decide +kernel
theorem dX11_clashesAt_3 : decode cX11_clashesAt 3 = .ok (.istore_n 3, 1) := by decide +kernel
theorem dX11_clashesAt_4 : decode cX11_clashesAt 4 = .ok (.iload_n 3, 1) := by decide +kernel
theorem dX11_clashesAt_5 : decode cX11_clashesAt 5 = .ok (.aload_n 0, 1) := by decide +kernel
theorem dX11_clashesAt_6 : decode cX11_clashesAt 6 = .ok (.getfield 7, 3) := by decide +kernel
theorem dX11_clashesAt_9 : decode cX11_clashesAt 9 = .ok (.sipush 130, 3) := by decide +kernel
theorem dX11_clashesAt_12 : decode cX11_clashesAt 12 = .ok (.iaload, 1) := by decide +kernel
theorem dX11_clashesAt_13 : decode cX11_clashesAt 13 = .ok (.if_icmp .ge 97, 3) := by decide +kernel
theorem dX11_clashesAt_16 : decode cX11_clashesAt 16 = .ok (.aload_n 0, 1) := by decide +kernel
theorem dX11_clashesAt_17 : decode cX11_clashesAt 17 = .ok (.getfield 7, 3) := by decide +kernel
theorem dX11_clashesAt_20 : decode cX11_clashesAt 20 = .ok (.sipush 136, 3) := by decide +kernel
theorem dX11_clashesAt_23 : decode cX11_clashesAt 23 = .ok (.iload_n 3, 1) := by decide +kernel
theorem dX11_clashesAt_24 : decode cX11_clashesAt 24 = .ok (.iadd, 1) := by decide +kernel
theorem dX11_clashesAt_25 : decode cX11_clashesAt 25 = .ok (.iaload, 1) := by decide +kernel
theorem dX11_clashesAt_26 : decode cX11_clashesAt 26 = .ok (.bipush 10, 2) := by decide +kernel
theorem dX11_clashesAt_28 : decode cX11_clashesAt 28 = .ok (.irem, 1) := by decide +kernel
theorem dX11_clashesAt_29 : decode cX11_clashesAt 29 = .ok (.istore 4, 2) := by decide +kernel
theorem dX11_clashesAt_31 : decode cX11_clashesAt 31 = .ok (.aload_n 0, 1) := by decide +kernel
theorem dX11_clashesAt_32 : decode cX11_clashesAt 32 = .ok (.getfield 7, 3) := by decide +kernel
theorem dX11_clashesAt_35 : decode cX11_clashesAt 35 = .ok (.sipush 136, 3) := by decide +kernel
theorem dX11_clashesAt_38 : decode cX11_clashesAt 38 = .ok (.iload_n 3, 1) := by decide +kernel
theorem dX11_clashesAt_39 : decode cX11_clashesAt 39 = .ok (.iadd, 1) := by decide +kernel
theorem dX11_clashesAt_40 : decode cX11_clashesAt 40 = .ok (.iload_n 1, 1) := by decide +kernel
theorem dX11_clashesAt_41 : decode cX11_clashesAt 41 = .ok (.isub, 1) := by decide +kernel
theorem dX11_clashesAt_42 : decode cX11_clashesAt 42 = .ok (.iaload, 1) := by decide +kernel
theorem dX11_clashesAt_43 : decode cX11_clashesAt 43 = .ok (.bipush 10, 2) := by decide +kernel
theorem dX11_clashesAt_45 : decode cX11_clashesAt 45 = .ok (.irem, 1) := by decide +kernel
theorem dX11_clashesAt_46 : decode cX11_clashesAt 46 = .ok (.istore 5, 2) := by decide +kernel
theorem dX11_clashesAt_48 : decode cX11_clashesAt 48 = .ok (.iload 4, 2) := by decide +kernel
theorem dX11_clashesAt_50 : decode cX11_clashesAt 50 = .ok (.iload 5, 2) := by decide +kernel
theorem dX11_clashesAt_52 : decode cX11_clashesAt 52 = .ok (.if_icmp .le 11, 3) := by decide +kernel
theorem dX11_clashesAt_55 : decode cX11_clashesAt 55 = .ok (.iload 4, 2) := by decide +kernel
theorem dX11_clashesAt_57 : decode cX11_clashesAt 57 = .ok (.iload 5, 2) := by decide +kernel
theorem dX11_clashesAt_59 : decode cX11_clashesAt 59 = .ok (.isub, 1) := by decide +kernel
theorem dX11_clashesAt_60 : decode cX11_clashesAt 60 = .ok (.goto 8, 3) := by decide +kernel
theorem dX11_clashesAt_63 : decode cX11_clashesAt 63 = .ok (.iload 5, 2) := by decide +kernel
theorem dX11_clashesAt_65 : decode cX11_clashesAt 65 = .ok (.iload 4, 2) := by decide +kernel
theorem dX11_clashesAt_67 : decode cX11_clashesAt 67 = .ok (.isub, 1) := by decide +kernel
theorem dX11_clashesAt_68 : decode cX11_clashesAt 68 = .ok (.istore 6, 2) := by decide +kernel
theorem dX11_clashesAt_70 : decode cX11_clashesAt 70 = .ok (.iload_n 2, 1) := by decide +kernel
theorem dX11_clashesAt_71 : decode cX11_clashesAt 71 = .ok (.iload 4, 2) := by decide +kernel
theorem dX11_clashesAt_73 : decode cX11_clashesAt 73 = .ok (.ifCond .le 28, 3) := by decide +kernel
theorem dX11_clashesAt_76 : decode cX11_clashesAt 76 = .ok (.iload 5, 2) := by decide +kernel
theorem dX11_clashesAt_78 : decode cX11_clashesAt 78 = .ok (.ifCond .le 23, 3) := by decide +kernel
theorem dX11_clashesAt_81 : decode cX11_clashesAt 81 = .ok (.aload_n 0, 1) := by decide +kernel
theorem dX11_clashesAt_82 : decode cX11_clashesAt 82 = .ok (.getfield 7, 3) := by decide +kernel
theorem dX11_clashesAt_85 : decode cX11_clashesAt 85 = .ok (.sipush 129, 3) := by decide +kernel
theorem dX11_clashesAt_88 : decode cX11_clashesAt 88 = .ok (.iaload, 1) := by decide +kernel
theorem dX11_clashesAt_89 : decode cX11_clashesAt 89 = .ok (.iload 6, 2) := by decide +kernel
theorem dX11_clashesAt_91 : decode cX11_clashesAt 91 = .ok (.ishr, 1) := by decide +kernel
theorem dX11_clashesAt_92 : decode cX11_clashesAt 92 = .ok (.iconst 1, 1) := by decide +kernel
theorem dX11_clashesAt_93 : decode cX11_clashesAt 93 = .ok (.iand, 1) := by decide +kernel
theorem dX11_clashesAt_94 : decode cX11_clashesAt 94 = .ok (.ifCond .ne 7, 3) := by decide +kernel
theorem dX11_clashesAt_97 : decode cX11_clashesAt 97 = .ok (.iconst 1, 1) := by decide +kernel
theorem dX11_clashesAt_98 : decode cX11_clashesAt 98 = .ok (.goto 4, 3) := by decide +kernel
theorem dX11_clashesAt_101 : decode cX11_clashesAt 101 = .ok (.iconst 0, 1) := by decide +kernel
theorem dX11_clashesAt_102 : decode cX11_clashesAt 102 = .ok (.iadd, 1) := by decide +kernel
theorem dX11_clashesAt_103 : decode cX11_clashesAt 103 = .ok (.istore_n 2, 1) := by decide +kernel
theorem dX11_clashesAt_104 : decode cX11_clashesAt 104 = .ok (.iinc 3 1, 3) := by decide +kernel
theorem dX11_clashesAt_107 : decode cX11_clashesAt 107 = .ok (.goto (-103), 3) := by decide +kernel
theorem dX11_clashesAt_110 : decode cX11_clashesAt 110 = .ok (.iload_n 2, 1) := by decide +kernel
theorem dX11_clashesAt_111 : decode cX11_clashesAt 111 = .ok (.ireturn, 1) := by decide +kernel
theorem dX11_clashes_0 : decode cX11_clashes 0 = .ok (.iload_n 1, 1) := by decide +kernel
theorem dX11_clashes_1 : decode cX11_clashes 1 = .ok (.i2l, 1) := by decide +kernel
theorem dX11_clashes_2 : decode cX11_clashes 2 = .ok (.lconst 1, 1) := by decide +kernel
theorem dX11_clashes_3 : decode cX11_clashes 3 = .ok (.aload_n 0, 1) := by decide +kernel
theorem dX11_clashes_4 : decode cX11_clashes 4 = .ok (.getfield 7, 3) := by decide +kernel
theorem dX11_clashes_7 : decode cX11_clashes 7 = .ok (.sipush 130, 3) := by decide +kernel
theorem dX11_clashes_10 : decode cX11_clashes 10 = .ok (.iaload, 1) := by decide +kernel
theorem dX11_clashes_11 : decode cX11_clashes 11 = .ok (.iconst 1, 1) := by decide +kernel
theorem dX11_clashes_12 : decode cX11_clashes 12 = .ok (.isub, 1) := by decide +kernel
theorem dX11_clashes_13 : decode cX11_clashes 13 = .ok (.i2l, 1) := by decide +kernel
theorem dX11_clashes_14 : decode cX11_clashes 14 = .ok (.invokestatic 72, 3) := by decide +kernel
theorem dX11_clashes_17 : decode cX11_clashes 17 = .ok (.ifCond .eq 11, 3) := by decide +kernel
theorem dX11_clashes_20 : decode cX11_clashes 20 = .ok (.aload_n 0, 1) := by decide +kernel
theorem dX11_clashes_21 : decode cX11_clashes 21 = .ok (.iload_n 1, 1) := by decide +kernel
theorem dX11_clashes_22 : decode cX11_clashes 22 = .ok (.invokevirtual 174, 3) := by decide +kernel
theorem dX11_clashes_25 : decode cX11_clashes 25 = .ok (.goto 4, 3) := by decide +kernel
theorem dX11_clashes_28 : decode cX11_clashes 28 = .ok (.iconst (-1), 1) := by decide +kernel
theorem dX11_clashes_29 : decode cX11_clashes 29 = .ok (.ireturn, 1) := by decide +kernel
theorem dX11_canon_0 : decode cX11_canon 0 = .ok (.iload_n 1, 1) := by decide +kernel
theorem dX11_canon_1 : decode cX11_canon 1 = .ok (.ifCond .ge 5, 3) := by decide +kernel
theorem dX11_canon_4 : decode cX11_canon 4 = .ok (.iconst (-1), 1) := by decide +kernel
theorem dX11_canon_5 : decode cX11_canon 5 = .ok (.ireturn, 1) := by decide +kernel
theorem dX11_canon_6 : decode cX11_canon 6 = .ok (.iload_n 1, 1) := by decide +kernel
theorem dX11_canon_7 : decode cX11_canon 7 = .ok (.istore_n 2, 1) := by decide +kernel
theorem dX11_canon_8 : decode cX11_canon 8 = .ok (.iconst 1, 1) := by decide +kernel
theorem dX11_canon_9 : decode cX11_canon 9 = .ok (.istore_n 3, 1) := by decide +kernel
theorem dX11_canon_10 : decode cX11_canon 10 = .ok (.iload_n 3, 1) := by decide +kernel
theorem dX11_canon_11 : decode cX11_canon 11 = .ok (.aload_n 0, 1) := by decide +kernel
theorem dX11_canon_12 : decode cX11_canon 12 = .ok (.getfield 7, 3) := by decide +kernel
theorem dX11_canon_15 : decode cX11_canon 15 = .ok (.sipush 130, 3) := by decide +kernel
theorem dX11_canon_18 : decode cX11_canon 18 = .ok (.iaload, 1) := by decide +kernel
theorem dX11_canon_19 : decode cX11_canon 19 = .ok (.if_icmp .ge 48, 3) := by decide +kernel
theorem dX11_canon_22 : decode cX11_canon 22 = .ok (.aload_n 0, 1) := by decide +kernel
theorem dX11_canon_23 : decode cX11_canon 23 = .ok (.iload_n 3, 1) := by decide +kernel
theorem dX11_canon_24 : decode cX11_canon 24 = .ok (.invokevirtual 174, 3) := by decide +kernel
theorem dX11_canon_27 : decode cX11_canon 27 = .ok (.ifCond .ne 7, 3) := by decide +kernel
theorem dX11_canon_30 : decode cX11_canon 30 = .ok (.iconst 1, 1) := by decide +kernel
theorem dX11_canon_31 : decode cX11_canon 31 = .ok (.goto 4, 3) := by decide +kernel
theorem dX11_canon_34 : decode cX11_canon 34 = .ok (.iconst 0, 1) := by decide +kernel
theorem dX11_canon_35 : decode cX11_canon 35 = .ok (.istore 4, 2) := by decide +kernel
theorem dX11_canon_37 : decode cX11_canon 37 = .ok (.iload 4, 2) := by decide +kernel
theorem dX11_canon_39 : decode cX11_canon 39 = .ok (.ifCond .eq 9, 3) := by decide +kernel
theorem dX11_canon_42 : decode cX11_canon 42 = .ok (.iload_n 2, 1) := by decide +kernel
theorem dX11_canon_43 : decode cX11_canon 43 = .ok (.ifCond .ne 5, 3) := by decide +kernel
theorem dX11_canon_46 : decode cX11_canon 46 = .ok (.iload_n 3, 1) := by decide +kernel
theorem dX11_canon_47 : decode cX11_canon 47 = .ok (.ireturn, 1) := by decide +kernel
theorem dX11_canon_48 : decode cX11_canon 48 = .ok (.iload_n 2, 1) := by decide +kernel
theorem dX11_canon_49 : decode cX11_canon 49 = .ok (.iload 4, 2) := by decide +kernel
theorem dX11_canon_51 : decode cX11_canon 51 = .ok (.ifCond .eq 7, 3) := by decide +kernel
theorem dX11_canon_54 : decode cX11_canon 54 = .ok (.iconst 1, 1) := by decide +kernel
theorem dX11_canon_55 : decode cX11_canon 55 = .ok (.goto 4, 3) := by decide +kernel
theorem dX11_canon_58 : decode cX11_canon 58 = .ok (.iconst 0, 1) := by decide +kernel
theorem dX11_canon_59 : decode cX11_canon 59 = .ok (.isub, 1) := by decide +kernel
theorem dX11_canon_60 : decode cX11_canon 60 = .ok (.istore_n 2, 1) := by decide +kernel
theorem dX11_canon_61 : decode cX11_canon 61 = .ok (.iinc 3 1, 3) := by decide +kernel
theorem dX11_canon_64 : decode cX11_canon 64 = .ok (.goto (-54), 3) := by decide +kernel
theorem dX11_canon_67 : decode cX11_canon 67 = .ok (.bipush (-4), 2) := by decide +kernel
theorem dX11_canon_69 : decode cX11_canon 69 = .ok (.ireturn, 1) := by decide +kernel
theorem dX11_sea_0 : decode cX11_sea 0 = .ok (.iload_n 1, 1) := by decide +kernel
theorem dX11_sea_1 : decode cX11_sea 1 = .ok (.i2l, 1) := by decide +kernel
theorem dX11_sea_2 : decode cX11_sea 2 = .ok (.lconst 1, 1) := by decide +kernel
theorem dX11_sea_3 : decode cX11_sea 3 = .ok (.ldc2_w 177, 3) := by decide +kernel
theorem dX11_sea_6 : decode cX11_sea 6 = .ok (.invokestatic 72, 3) := by decide +kernel
theorem dX11_sea_9 : decode cX11_sea 9 = .ok (.ifCond .eq 15, 3) := by decide +kernel
theorem dX11_sea_12 : decode cX11_sea 12 = .ok (.iload_n 2, 1) := by decide +kernel
theorem dX11_sea_13 : decode cX11_sea 13 = .ok (.i2l, 1) := by decide +kernel
theorem dX11_sea_14 : decode cX11_sea 14 = .ok (.lconst 1, 1) := by decide +kernel
theorem dX11_sea_15 : decode cX11_sea 15 = .ok (.ldc2_w 179, 3) := by decide +kernel
theorem dX11_sea_18 : decode cX11_sea 18 = .ok (.invokestatic 72, 3) := by decide +kernel
theorem dX11_sea_21 : decode cX11_sea 21 = .ok (.ifCond .ne 5, 3) := by decide +kernel
theorem dX11_sea_24 : decode cX11_sea 24 = .ok (.iconst (-1), 1) := by decide +kernel
theorem dX11_sea_25 : decode cX11_sea 25 = .ok (.ireturn, 1) := by decide +kernel
theorem dX11_sea_26 : decode cX11_sea 26 = .ok (.iload_n 2, 1) := by decide +kernel
theorem dX11_sea_27 : decode cX11_sea 27 = .ok (.iload_n 1, 1) := by decide +kernel
theorem dX11_sea_28 : decode cX11_sea 28 = .ok (.irem, 1) := by decide +kernel
theorem dX11_sea_29 : decode cX11_sea 29 = .ok (.ifCond .ne 12, 3) := by decide +kernel
theorem dX11_sea_32 : decode cX11_sea 32 = .ok (.iload_n 2, 1) := by decide +kernel
theorem dX11_sea_33 : decode cX11_sea 33 = .ok (.iload_n 1, 1) := by decide +kernel
theorem dX11_sea_34 : decode cX11_sea 34 = .ok (.idiv, 1) := by decide +kernel
theorem dX11_sea_35 : decode cX11_sea 35 = .ok (.sipush 2000, 3) := by decide +kernel
theorem dX11_sea_38 : decode cX11_sea 38 = .ok (.if_icmp .le 8, 3) := by decide +kernel
theorem dX11_sea_41 : decode cX11_sea 41 = .ok (.bipush (-4), 2) := by decide +kernel
theorem dX11_sea_43 : decode cX11_sea 43 = .ok (.goto 6, 3) := by decide +kernel
theorem dX11_sea_46 : decode cX11_sea 46 = .ok (.iload_n 2, 1) := by decide +kernel
theorem dX11_sea_47 : decode cX11_sea 47 = .ok (.iload_n 1, 1) := by decide +kernel
theorem dX11_sea_48 : decode cX11_sea 48 = .ok (.idiv, 1) := by decide +kernel
theorem dX11_sea_49 : decode cX11_sea 49 = .ok (.ireturn, 1) := by decide +kernel
theorem dX11_lose_0 : decode cX11_lose 0 = .ok (.iload_n 1, 1) := by decide +kernel
theorem dX11_lose_1 : decode cX11_lose 1 = .ok (.i2l, 1) := by decide +kernel
theorem dX11_lose_2 : decode cX11_lose 2 = .ok (.lconst 1, 1) := by decide +kernel
theorem dX11_lose_3 : decode cX11_lose 3 = .ok (.ldc2_w 181, 3) := by decide +kernel
theorem dX11_lose_6 : decode cX11_lose 6 = .ok (.invokestatic 72, 3) := by decide +kernel
theorem dX11_lose_9 : decode cX11_lose 9 = .ok (.ifCond .eq 24, 3) := by decide +kernel
theorem dX11_lose_12 : decode cX11_lose 12 = .ok (.aload_n 0, 1) := by decide +kernel
theorem dX11_lose_13 : decode cX11_lose 13 = .ok (.iload_n 2, 1) := by decide +kernel
theorem dX11_lose_14 : decode cX11_lose 14 = .ok (.invokevirtual 86, 3) := by decide +kernel
theorem dX11_lose_17 : decode cX11_lose 17 = .ok (.ifCond .eq 16, 3) := by decide +kernel
theorem dX11_lose_20 : decode cX11_lose 20 = .ok (.aload_n 0, 1) := by decide +kernel
theorem dX11_lose_21 : decode cX11_lose 21 = .ok (.iload_n 3, 1) := by decide +kernel
theorem dX11_lose_22 : decode cX11_lose 22 = .ok (.invokevirtual 86, 3) := by decide +kernel
theorem dX11_lose_25 : decode cX11_lose 25 = .ok (.ifCond .eq 8, 3) := by decide +kernel
theorem dX11_lose_28 : decode cX11_lose 28 = .ok (.iload_n 2, 1) := by decide +kernel
theorem dX11_lose_29 : decode cX11_lose 29 = .ok (.iload_n 3, 1) := by decide +kernel
theorem dX11_lose_30 : decode cX11_lose 30 = .ok (.if_icmp .ne 5, 3) := by decide +kernel
theorem dX11_lose_33 : decode cX11_lose 33 = .ok (.iconst (-1), 1) := by decide +kernel
theorem dX11_lose_34 : decode cX11_lose 34 = .ok (.ireturn, 1) := by decide +kernel
theorem dX11_lose_35 : decode cX11_lose 35 = .ok (.sipush 200, 3) := by decide +kernel
theorem dX11_lose_38 : decode cX11_lose 38 = .ok (.bipush 64, 2) := by decide +kernel
theorem dX11_lose_40 : decode cX11_lose 40 = .ok (.iload_n 1, 1) := by decide +kernel
theorem dX11_lose_41 : decode cX11_lose 41 = .ok (.iconst 1, 1) := by decide +kernel
theorem dX11_lose_42 : decode cX11_lose 42 = .ok (.isub, 1) := by decide +kernel
theorem dX11_lose_43 : decode cX11_lose 43 = .ok (.imul, 1) := by decide +kernel
theorem dX11_lose_44 : decode cX11_lose 44 = .ok (.iadd, 1) := by decide +kernel
theorem dX11_lose_45 : decode cX11_lose 45 = .ok (.bipush 8, 2) := by decide +kernel
theorem dX11_lose_47 : decode cX11_lose 47 = .ok (.iload_n 2, 1) := by decide +kernel
theorem dX11_lose_48 : decode cX11_lose 48 = .ok (.imul, 1) := by decide +kernel
theorem dX11_lose_49 : decode cX11_lose 49 = .ok (.iadd, 1) := by decide +kernel
theorem dX11_lose_50 : decode cX11_lose 50 = .ok (.iload_n 3, 1) := by decide +kernel
theorem dX11_lose_51 : decode cX11_lose 51 = .ok (.iadd, 1) := by decide +kernel
theorem dX11_lose_52 : decode cX11_lose 52 = .ok (.istore 5, 2) := by decide +kernel
theorem dX11_lose_54 : decode cX11_lose 54 = .ok (.aload_n 0, 1) := by decide +kernel
theorem dX11_lose_55 : decode cX11_lose 55 = .ok (.getfield 7, 3) := by decide +kernel
theorem dX11_lose_58 : decode cX11_lose 58 = .ok (.iload 5, 2) := by decide +kernel
theorem dX11_lose_60 : decode cX11_lose 60 = .ok (.iaload, 1) := by decide +kernel
theorem dX11_lose_61 : decode cX11_lose 61 = .ok (.istore 6, 2) := by decide +kernel
theorem dX11_lose_63 : decode cX11_lose 63 = .ok (.aload_n 0, 1) := by decide +kernel
theorem dX11_lose_64 : decode cX11_lose 64 = .ok (.getfield 7, 3) := by decide +kernel
theorem dX11_lose_67 : decode cX11_lose 67 = .ok (.iload 5, 2) := by decide +kernel
theorem dX11_lose_69 : decode cX11_lose 69 = .ok (.iload 4, 2) := by decide +kernel
theorem dX11_lose_71 : decode cX11_lose 71 = .ok (.ifCond .eq 7, 3) := by decide +kernel
theorem dX11_lose_74 : decode cX11_lose 74 = .ok (.iconst 1, 1) := by decide +kernel
theorem dX11_lose_75 : decode cX11_lose 75 = .ok (.goto 4, 3) := by decide +kernel
theorem dX11_lose_78 : decode cX11_lose 78 = .ok (.iconst 0, 1) := by decide +kernel
theorem dX11_lose_79 : decode cX11_lose 79 = .ok (.iastore, 1) := by decide +kernel
theorem dX11_lose_80 : decode cX11_lose 80 = .ok (.iload 6, 2) := by decide +kernel
theorem dX11_lose_82 : decode cX11_lose 82 = .ok (.ireturn, 1) := by decide +kernel
theorem dX11_tells_0 : decode cX11_tells 0 = .ok (.iconst 0, 1) := by decide +kernel
theorem dX11_tells_1 : decode cX11_tells 1 = .ok (.istore_n 2, 1) := by decide +kernel
theorem dX11_tells_2 : decode cX11_tells 2 = .ok (.iload_n 2, 1) := by decide +kernel
theorem dX11_tells_3 : decode cX11_tells 3 = .ok (.aload_n 0, 1) := by decide +kernel
theorem dX11_tells_4 : decode cX11_tells 4 = .ok (.invokevirtual 82, 3) := by decide +kernel
theorem dX11_tells_7 : decode cX11_tells 7 = .ok (.if_icmp .ge 18, 3) := by decide +kernel
theorem dX11_tells_10 : decode cX11_tells 10 = .ok (.aload_n 0, 1) := by decide +kernel
theorem dX11_tells_11 : decode cX11_tells 11 = .ok (.getfield 29, 3) := by decide +kernel
theorem dX11_tells_14 : decode cX11_tells 14 = .ok (.iload_n 2, 1) := by decide +kernel
theorem dX11_tells_15 : decode cX11_tells 15 = .ok (.iconst 1, 1) := by decide +kernel
theorem dX11_tells_16 : decode cX11_tells 16 = .ok (.iload_n 2, 1) := by decide +kernel
theorem dX11_tells_17 : decode cX11_tells 17 = .ok (.ishl, 1) := by decide +kernel
theorem dX11_tells_18 : decode cX11_tells 18 = .ok (.iastore, 1) := by decide +kernel
theorem dX11_tells_19 : decode cX11_tells 19 = .ok (.iinc 2 1, 3) := by decide +kernel
theorem dX11_tells_22 : decode cX11_tells 22 = .ok (.goto (-20), 3) := by decide +kernel
theorem dX11_tells_25 : decode cX11_tells 25 = .ok (.iconst 1, 1) := by decide +kernel
theorem dX11_tells_26 : decode cX11_tells 26 = .ok (.istore_n 2, 1) := by decide +kernel
theorem dX11_tells_27 : decode cX11_tells 27 = .ok (.iload_n 2, 1) := by decide +kernel
theorem dX11_tells_28 : decode cX11_tells 28 = .ok (.iload_n 1, 1) := by decide +kernel
theorem dX11_tells_29 : decode cX11_tells 29 = .ok (.if_icmp .gt 174, 3) := by decide +kernel
theorem dX11_tells_32 : decode cX11_tells 32 = .ok (.iconst 0, 1) := by decide +kernel
theorem dX11_tells_33 : decode cX11_tells 33 = .ok (.istore_n 3, 1) := by decide +kernel
theorem dX11_tells_34 : decode cX11_tells 34 = .ok (.iload_n 3, 1) := by decide +kernel
theorem dX11_tells_35 : decode cX11_tells 35 = .ok (.aload_n 0, 1) := by decide +kernel
theorem dX11_tells_36 : decode cX11_tells 36 = .ok (.invokevirtual 82, 3) := by decide +kernel
theorem dX11_tells_39 : decode cX11_tells 39 = .ok (.if_icmp .ge 130, 3) := by decide +kernel
theorem dX11_tells_42 : decode cX11_tells 42 = .ok (.aload_n 0, 1) := by decide +kernel
theorem dX11_tells_43 : decode cX11_tells 43 = .ok (.getfield 32, 3) := by decide +kernel
theorem dX11_tells_46 : decode cX11_tells 46 = .ok (.iload_n 3, 1) := by decide +kernel
theorem dX11_tells_47 : decode cX11_tells 47 = .ok (.aload_n 0, 1) := by decide +kernel
theorem dX11_tells_48 : decode cX11_tells 48 = .ok (.getfield 29, 3) := by decide +kernel
theorem dX11_tells_51 : decode cX11_tells 51 = .ok (.iload_n 3, 1) := by decide +kernel
theorem dX11_tells_52 : decode cX11_tells 52 = .ok (.iaload, 1) := by decide +kernel
theorem dX11_tells_53 : decode cX11_tells 53 = .ok (.iastore, 1) := by decide +kernel
theorem dX11_tells_54 : decode cX11_tells 54 = .ok (.iconst 0, 1) := by decide +kernel
theorem dX11_tells_55 : decode cX11_tells 55 = .ok (.istore 4, 2) := by decide +kernel
theorem dX11_tells_57 : decode cX11_tells 57 = .ok (.iload 4, 2) := by decide +kernel
theorem dX11_tells_59 : decode cX11_tells 59 = .ok (.aload_n 0, 1) := by decide +kernel
theorem dX11_tells_60 : decode cX11_tells 60 = .ok (.invokevirtual 82, 3) := by decide +kernel
theorem dX11_tells_63 : decode cX11_tells 63 = .ok (.if_icmp .ge 100, 3) := by decide +kernel
theorem dX11_tells_66 : decode cX11_tells 66 = .ok (.iload 4, 2) := by decide +kernel
theorem dX11_tells_68 : decode cX11_tells 68 = .ok (.iload_n 3, 1) := by decide +kernel
theorem dX11_tells_69 : decode cX11_tells 69 = .ok (.if_icmp .eq 60, 3) := by decide +kernel
theorem dX11_tells_72 : decode cX11_tells 72 = .ok (.aload_n 0, 1) := by decide +kernel
theorem dX11_tells_73 : decode cX11_tells 73 = .ok (.iload 4, 2) := by decide +kernel
theorem dX11_tells_75 : decode cX11_tells 75 = .ok (.invokevirtual 137, 3) := by decide +kernel
theorem dX11_tells_78 : decode cX11_tells 78 = .ok (.ifCond .ne 51, 3) := by decide +kernel
theorem dX11_tells_81 : decode cX11_tells 81 = .ok (.aload_n 0, 1) := by decide +kernel
theorem dX11_tells_82 : decode cX11_tells 82 = .ok (.iload_n 3, 1) := by decide +kernel
theorem dX11_tells_83 : decode cX11_tells 83 = .ok (.invokevirtual 137, 3) := by decide +kernel
theorem dX11_tells_86 : decode cX11_tells 86 = .ok (.ifCond .ne 43, 3) := by decide +kernel
theorem dX11_tells_89 : decode cX11_tells 89 = .ok (.aload_n 0, 1) := by decide +kernel
theorem dX11_tells_90 : decode cX11_tells 90 = .ok (.iload 4, 2) := by decide +kernel
theorem dX11_tells_92 : decode cX11_tells 92 = .ok (.iload_n 3, 1) := by decide +kernel
theorem dX11_tells_93 : decode cX11_tells 93 = .ok (.invokevirtual 96, 3) := by decide +kernel
theorem dX11_tells_96 : decode cX11_tells 96 = .ok (.ifCond .le 33, 3) := by decide +kernel
theorem dX11_tells_99 : decode cX11_tells 99 = .ok (.aload_n 0, 1) := by decide +kernel
theorem dX11_tells_100 : decode cX11_tells 100 = .ok (.getfield 7, 3) := by decide +kernel
theorem dX11_tells_103 : decode cX11_tells 103 = .ok (.sipush 200, 3) := by decide +kernel
theorem dX11_tells_106 : decode cX11_tells 106 = .ok (.bipush 64, 2) := by decide +kernel
theorem dX11_tells_108 : decode cX11_tells 108 = .ok (.iload_n 2, 1) := by decide +kernel
theorem dX11_tells_109 : decode cX11_tells 109 = .ok (.iconst 1, 1) := by decide +kernel
theorem dX11_tells_110 : decode cX11_tells 110 = .ok (.isub, 1) := by decide +kernel
theorem dX11_tells_111 : decode cX11_tells 111 = .ok (.imul, 1) := by decide +kernel
theorem dX11_tells_112 : decode cX11_tells 112 = .ok (.iadd, 1) := by decide +kernel
theorem dX11_tells_113 : decode cX11_tells 113 = .ok (.bipush 8, 2) := by decide +kernel
theorem dX11_tells_115 : decode cX11_tells 115 = .ok (.iload 4, 2) := by decide +kernel
theorem dX11_tells_117 : decode cX11_tells 117 = .ok (.imul, 1) := by decide +kernel
theorem dX11_tells_118 : decode cX11_tells 118 = .ok (.iadd, 1) := by decide +kernel
theorem dX11_tells_119 : decode cX11_tells 119 = .ok (.iload_n 3, 1) := by decide +kernel
theorem dX11_tells_120 : decode cX11_tells 120 = .ok (.iadd, 1) := by decide +kernel
theorem dX11_tells_121 : decode cX11_tells 121 = .ok (.iaload, 1) := by decide +kernel
theorem dX11_tells_122 : decode cX11_tells 122 = .ok (.ifCond .ne 7, 3) := by decide +kernel
theorem dX11_tells_125 : decode cX11_tells 125 = .ok (.iconst 1, 1) := by decide +kernel
theorem dX11_tells_126 : decode cX11_tells 126 = .ok (.goto 4, 3) := by decide +kernel
theorem dX11_tells_129 : decode cX11_tells 129 = .ok (.iconst 0, 1) := by decide +kernel
theorem dX11_tells_130 : decode cX11_tells 130 = .ok (.istore 5, 2) := by decide +kernel
theorem dX11_tells_132 : decode cX11_tells 132 = .ok (.aload_n 0, 1) := by decide +kernel
theorem dX11_tells_133 : decode cX11_tells 133 = .ok (.getfield 32, 3) := by decide +kernel
theorem dX11_tells_136 : decode cX11_tells 136 = .ok (.iload_n 3, 1) := by decide +kernel
theorem dX11_tells_137 : decode cX11_tells 137 = .ok (.dup2, 1) := by decide +kernel
theorem dX11_tells_138 : decode cX11_tells 138 = .ok (.iaload, 1) := by decide +kernel
theorem dX11_tells_139 : decode cX11_tells 139 = .ok (.iload 5, 2) := by decide +kernel
theorem dX11_tells_141 : decode cX11_tells 141 = .ok (.ifCond .eq 13, 3) := by decide +kernel
theorem dX11_tells_144 : decode cX11_tells 144 = .ok (.aload_n 0, 1) := by decide +kernel
theorem dX11_tells_145 : decode cX11_tells 145 = .ok (.getfield 29, 3) := by decide +kernel
theorem dX11_tells_148 : decode cX11_tells 148 = .ok (.iload 4, 2) := by decide +kernel
theorem dX11_tells_150 : decode cX11_tells 150 = .ok (.iaload, 1) := by decide +kernel
theorem dX11_tells_151 : decode cX11_tells 151 = .ok (.goto 4, 3) := by decide +kernel
theorem dX11_tells_154 : decode cX11_tells 154 = .ok (.iconst 0, 1) := by decide +kernel
theorem dX11_tells_155 : decode cX11_tells 155 = .ok (.ior, 1) := by decide +kernel
theorem dX11_tells_156 : decode cX11_tells 156 = .ok (.iastore, 1) := by decide +kernel
theorem dX11_tells_157 : decode cX11_tells 157 = .ok (.iinc 4 1, 3) := by decide +kernel
theorem dX11_tells_160 : decode cX11_tells 160 = .ok (.goto (-103), 3) := by decide +kernel
theorem dX11_tells_163 : decode cX11_tells 163 = .ok (.iinc 3 1, 3) := by decide +kernel
theorem dX11_tells_166 : decode cX11_tells 166 = .ok (.goto (-132), 3) := by decide +kernel
theorem dX11_tells_169 : decode cX11_tells 169 = .ok (.iconst 0, 1) := by decide +kernel
theorem dX11_tells_170 : decode cX11_tells 170 = .ok (.istore_n 3, 1) := by decide +kernel
theorem dX11_tells_171 : decode cX11_tells 171 = .ok (.iload_n 3, 1) := by decide +kernel
theorem dX11_tells_172 : decode cX11_tells 172 = .ok (.aload_n 0, 1) := by decide +kernel
theorem dX11_tells_173 : decode cX11_tells 173 = .ok (.invokevirtual 82, 3) := by decide +kernel
theorem dX11_tells_176 : decode cX11_tells 176 = .ok (.if_icmp .ge 21, 3) := by decide +kernel
theorem dX11_tells_179 : decode cX11_tells 179 = .ok (.aload_n 0, 1) := by decide +kernel
theorem dX11_tells_180 : decode cX11_tells 180 = .ok (.getfield 29, 3) := by decide +kernel
theorem dX11_tells_183 : decode cX11_tells 183 = .ok (.iload_n 3, 1) := by decide +kernel
theorem dX11_tells_184 : decode cX11_tells 184 = .ok (.aload_n 0, 1) := by decide +kernel
theorem dX11_tells_185 : decode cX11_tells 185 = .ok (.getfield 32, 3) := by decide +kernel
theorem dX11_tells_188 : decode cX11_tells 188 = .ok (.iload_n 3, 1) := by decide +kernel
theorem dX11_tells_189 : decode cX11_tells 189 = .ok (.iaload, 1) := by decide +kernel
theorem dX11_tells_190 : decode cX11_tells 190 = .ok (.iastore, 1) := by decide +kernel
theorem dX11_tells_191 : decode cX11_tells 191 = .ok (.iinc 3 1, 3) := by decide +kernel
theorem dX11_tells_194 : decode cX11_tells 194 = .ok (.goto (-23), 3) := by decide +kernel
theorem dX11_tells_197 : decode cX11_tells 197 = .ok (.iinc 2 1, 3) := by decide +kernel
theorem dX11_tells_200 : decode cX11_tells 200 = .ok (.goto (-173), 3) := by decide +kernel
theorem dX11_tells_203 : decode cX11_tells 203 = .ok (.return_, 1) := by decide +kernel
theorem dX11_knows_0 : decode cX11_knows 0 = .ok (.aload_n 0, 1) := by decide +kernel
theorem dX11_knows_1 : decode cX11_knows 1 = .ok (.iload_n 1, 1) := by decide +kernel
theorem dX11_knows_2 : decode cX11_knows 2 = .ok (.invokevirtual 86, 3) := by decide +kernel
theorem dX11_knows_5 : decode cX11_knows 5 = .ok (.ifCond .eq 15, 3) := by decide +kernel
theorem dX11_knows_8 : decode cX11_knows 8 = .ok (.iload_n 2, 1) := by decide +kernel
theorem dX11_knows_9 : decode cX11_knows 9 = .ok (.i2l, 1) := by decide +kernel
theorem dX11_knows_10 : decode cX11_knows 10 = .ok (.lconst 0, 1) := by decide +kernel
theorem dX11_knows_11 : decode cX11_knows 11 = .ok (.ldc2_w 181, 3) := by decide +kernel
theorem dX11_knows_14 : decode cX11_knows 14 = .ok (.invokestatic 72, 3) := by decide +kernel
theorem dX11_knows_17 : decode cX11_knows 17 = .ok (.ifCond .ne 5, 3) := by decide +kernel
theorem dX11_knows_20 : decode cX11_knows 20 = .ok (.iconst (-1), 1) := by decide +kernel
theorem dX11_knows_21 : decode cX11_knows 21 = .ok (.ireturn, 1) := by decide +kernel
theorem dX11_knows_22 : decode cX11_knows 22 = .ok (.aload_n 0, 1) := by decide +kernel
theorem dX11_knows_23 : decode cX11_knows 23 = .ok (.iload_n 2, 1) := by decide +kernel
theorem dX11_knows_24 : decode cX11_knows 24 = .ok (.invokevirtual 183, 3) := by decide +kernel
theorem dX11_knows_27 : decode cX11_knows 27 = .ok (.aload_n 0, 1) := by decide +kernel
theorem dX11_knows_28 : decode cX11_knows 28 = .ok (.getfield 29, 3) := by decide +kernel
theorem dX11_knows_31 : decode cX11_knows 31 = .ok (.iload_n 1, 1) := by decide +kernel
theorem dX11_knows_32 : decode cX11_knows 32 = .ok (.iaload, 1) := by decide +kernel
theorem dX11_knows_33 : decode cX11_knows 33 = .ok (.ireturn, 1) := by decide +kernel
theorem dX11_goes_0 : decode cX11_goes 0 = .ok (.aload_n 0, 1) := by decide +kernel
theorem dX11_goes_1 : decode cX11_goes 1 = .ok (.iload_n 1, 1) := by decide +kernel
theorem dX11_goes_2 : decode cX11_goes 2 = .ok (.invokevirtual 86, 3) := by decide +kernel
theorem dX11_goes_5 : decode cX11_goes 5 = .ok (.ifCond .eq 15, 3) := by decide +kernel
theorem dX11_goes_8 : decode cX11_goes 8 = .ok (.iload_n 2, 1) := by decide +kernel
theorem dX11_goes_9 : decode cX11_goes 9 = .ok (.i2l, 1) := by decide +kernel
theorem dX11_goes_10 : decode cX11_goes 10 = .ok (.lconst 0, 1) := by decide +kernel
theorem dX11_goes_11 : decode cX11_goes 11 = .ok (.ldc2_w 181, 3) := by decide +kernel
theorem dX11_goes_14 : decode cX11_goes 14 = .ok (.invokestatic 72, 3) := by decide +kernel
theorem dX11_goes_17 : decode cX11_goes 17 = .ok (.ifCond .ne 5, 3) := by decide +kernel
theorem dX11_goes_20 : decode cX11_goes 20 = .ok (.iconst (-1), 1) := by decide +kernel
theorem dX11_goes_21 : decode cX11_goes 21 = .ok (.ireturn, 1) := by decide +kernel
theorem dX11_goes_22 : decode cX11_goes 22 = .ok (.aload_n 0, 1) := by decide +kernel
theorem dX11_goes_23 : decode cX11_goes 23 = .ok (.iload_n 2, 1) := by decide +kernel
theorem dX11_goes_24 : decode cX11_goes 24 = .ok (.invokevirtual 183, 3) := by decide +kernel
theorem dX11_goes_27 : decode cX11_goes 27 = .ok (.bipush 64, 2) := by decide +kernel
theorem dX11_goes_29 : decode cX11_goes 29 = .ok (.istore_n 3, 1) := by decide +kernel
theorem dX11_goes_30 : decode cX11_goes 30 = .ok (.iconst 0, 1) := by decide +kernel
theorem dX11_goes_31 : decode cX11_goes 31 = .ok (.istore 4, 2) := by decide +kernel
theorem dX11_goes_33 : decode cX11_goes 33 = .ok (.iconst 0, 1) := by decide +kernel
theorem dX11_goes_34 : decode cX11_goes 34 = .ok (.istore 5, 2) := by decide +kernel
theorem dX11_goes_36 : decode cX11_goes 36 = .ok (.iload 5, 2) := by decide +kernel
theorem dX11_goes_38 : decode cX11_goes 38 = .ok (.aload_n 0, 1) := by decide +kernel
theorem dX11_goes_39 : decode cX11_goes 39 = .ok (.invokevirtual 82, 3) := by decide +kernel
theorem dX11_goes_42 : decode cX11_goes 42 = .ok (.if_icmp .ge 50, 3) := by decide +kernel
theorem dX11_goes_45 : decode cX11_goes 45 = .ok (.aload_n 0, 1) := by decide +kernel
theorem dX11_goes_46 : decode cX11_goes 46 = .ok (.iload 5, 2) := by decide +kernel
theorem dX11_goes_48 : decode cX11_goes 48 = .ok (.invokevirtual 137, 3) := by decide +kernel
theorem dX11_goes_51 : decode cX11_goes 51 = .ok (.ifCond .ne 35, 3) := by decide +kernel
theorem dX11_goes_54 : decode cX11_goes 54 = .ok (.iload 4, 2) := by decide +kernel
theorem dX11_goes_56 : decode cX11_goes 56 = .ok (.iconst 1, 1) := by decide +kernel
theorem dX11_goes_57 : decode cX11_goes 57 = .ok (.iload 5, 2) := by decide +kernel
theorem dX11_goes_59 : decode cX11_goes 59 = .ok (.ishl, 1) := by decide +kernel
theorem dX11_goes_60 : decode cX11_goes 60 = .ok (.ior, 1) := by decide +kernel
theorem dX11_goes_61 : decode cX11_goes 61 = .ok (.istore 4, 2) := by decide +kernel
theorem dX11_goes_63 : decode cX11_goes 63 = .ok (.aload_n 0, 1) := by decide +kernel
theorem dX11_goes_64 : decode cX11_goes 64 = .ok (.iload 5, 2) := by decide +kernel
theorem dX11_goes_66 : decode cX11_goes 66 = .ok (.iconst 5, 1) := by decide +kernel
theorem dX11_goes_67 : decode cX11_goes 67 = .ok (.invokevirtual 76, 3) := by decide +kernel
theorem dX11_goes_70 : decode cX11_goes 70 = .ok (.iload_n 3, 1) := by decide +kernel
theorem dX11_goes_71 : decode cX11_goes 71 = .ok (.if_icmp .ge 13, 3) := by decide +kernel
theorem dX11_goes_74 : decode cX11_goes 74 = .ok (.aload_n 0, 1) := by decide +kernel
theorem dX11_goes_75 : decode cX11_goes 75 = .ok (.iload 5, 2) := by decide +kernel
theorem dX11_goes_77 : decode cX11_goes 77 = .ok (.iconst 5, 1) := by decide +kernel
theorem dX11_goes_78 : decode cX11_goes 78 = .ok (.invokevirtual 76, 3) := by decide +kernel
theorem dX11_goes_81 : decode cX11_goes 81 = .ok (.goto 4, 3) := by decide +kernel
theorem dX11_goes_84 : decode cX11_goes 84 = .ok (.iload_n 3, 1) := by decide +kernel
theorem dX11_goes_85 : decode cX11_goes 85 = .ok (.istore_n 3, 1) := by decide +kernel
theorem dX11_goes_86 : decode cX11_goes 86 = .ok (.iinc 5 1, 3) := by decide +kernel
theorem dX11_goes_89 : decode cX11_goes 89 = .ok (.goto (-53), 3) := by decide +kernel
theorem dX11_goes_92 : decode cX11_goes 92 = .ok (.aload_n 0, 1) := by decide +kernel
theorem dX11_goes_93 : decode cX11_goes 93 = .ok (.iload_n 1, 1) := by decide +kernel
theorem dX11_goes_94 : decode cX11_goes 94 = .ok (.invokevirtual 137, 3) := by decide +kernel
theorem dX11_goes_97 : decode cX11_goes 97 = .ok (.ifCond .ne 17, 3) := by decide +kernel
theorem dX11_goes_100 : decode cX11_goes 100 = .ok (.aload_n 0, 1) := by decide +kernel
theorem dX11_goes_101 : decode cX11_goes 101 = .ok (.getfield 29, 3) := by decide +kernel
theorem dX11_goes_104 : decode cX11_goes 104 = .ok (.iload_n 1, 1) := by decide +kernel
theorem dX11_goes_105 : decode cX11_goes 105 = .ok (.iaload, 1) := by decide +kernel
theorem dX11_goes_106 : decode cX11_goes 106 = .ok (.iload 4, 2) := by decide +kernel
theorem dX11_goes_108 : decode cX11_goes 108 = .ok (.iand, 1) := by decide +kernel
theorem dX11_goes_109 : decode cX11_goes 109 = .ok (.iload 4, 2) := by decide +kernel
theorem dX11_goes_111 : decode cX11_goes 111 = .ok (.if_icmp .eq 6, 3) := by decide +kernel
theorem dX11_goes_114 : decode cX11_goes 114 = .ok (.bipush (-4), 2) := by decide +kernel
theorem dX11_goes_116 : decode cX11_goes 116 = .ok (.ireturn, 1) := by decide +kernel
theorem dX11_goes_117 : decode cX11_goes 117 = .ok (.iconst 0, 1) := by decide +kernel
theorem dX11_goes_118 : decode cX11_goes 118 = .ok (.istore 5, 2) := by decide +kernel
theorem dX11_goes_120 : decode cX11_goes 120 = .ok (.iconst 0, 1) := by decide +kernel
theorem dX11_goes_121 : decode cX11_goes 121 = .ok (.istore 6, 2) := by decide +kernel
theorem dX11_goes_123 : decode cX11_goes 123 = .ok (.iload 6, 2) := by decide +kernel
theorem dX11_goes_125 : decode cX11_goes 125 = .ok (.aload_n 0, 1) := by decide +kernel
theorem dX11_goes_126 : decode cX11_goes 126 = .ok (.getfield 7, 3) := by decide +kernel
theorem dX11_goes_129 : decode cX11_goes 129 = .ok (.sipush 130, 3) := by decide +kernel
theorem dX11_goes_132 : decode cX11_goes 132 = .ok (.iaload, 1) := by decide +kernel
theorem dX11_goes_133 : decode cX11_goes 133 = .ok (.if_icmp .ge 44, 3) := by decide +kernel
theorem dX11_goes_136 : decode cX11_goes 136 = .ok (.aload_n 0, 1) := by decide +kernel
theorem dX11_goes_137 : decode cX11_goes 137 = .ok (.getfield 7, 3) := by decide +kernel
theorem dX11_goes_140 : decode cX11_goes 140 = .ok (.sipush 136, 3) := by decide +kernel
theorem dX11_goes_143 : decode cX11_goes 143 = .ok (.iload 6, 2) := by decide +kernel
theorem dX11_goes_145 : decode cX11_goes 145 = .ok (.iadd, 1) := by decide +kernel
theorem dX11_goes_146 : decode cX11_goes 146 = .ok (.iaload, 1) := by decide +kernel
theorem dX11_goes_147 : decode cX11_goes 147 = .ok (.bipush 10, 2) := by decide +kernel
theorem dX11_goes_149 : decode cX11_goes 149 = .ok (.if_icmp .lt 18, 3) := by decide +kernel
theorem dX11_goes_152 : decode cX11_goes 152 = .ok (.iload 6, 2) := by decide +kernel
theorem dX11_goes_154 : decode cX11_goes 154 = .ok (.iconst 1, 1) := by decide +kernel
theorem dX11_goes_155 : decode cX11_goes 155 = .ok (.iadd, 1) := by decide +kernel
theorem dX11_goes_156 : decode cX11_goes 156 = .ok (.iload_n 3, 1) := by decide +kernel
theorem dX11_goes_157 : decode cX11_goes 157 = .ok (.if_icmp .gt 10, 3) := by decide +kernel
theorem dX11_goes_160 : decode cX11_goes 160 = .ok (.iload 6, 2) := by decide +kernel
theorem dX11_goes_162 : decode cX11_goes 162 = .ok (.iconst 1, 1) := by decide +kernel
theorem dX11_goes_163 : decode cX11_goes 163 = .ok (.iadd, 1) := by decide +kernel
theorem dX11_goes_164 : decode cX11_goes 164 = .ok (.goto 5, 3) := by decide +kernel
theorem dX11_goes_167 : decode cX11_goes 167 = .ok (.iload 5, 2) := by decide +kernel
theorem dX11_goes_169 : decode cX11_goes 169 = .ok (.istore 5, 2) := by decide +kernel
theorem dX11_goes_171 : decode cX11_goes 171 = .ok (.iinc 6 1, 3) := by decide +kernel
theorem dX11_goes_174 : decode cX11_goes 174 = .ok (.goto (-51), 3) := by decide +kernel
theorem dX11_goes_177 : decode cX11_goes 177 = .ok (.iload 5, 2) := by decide +kernel
theorem dX11_goes_179 : decode cX11_goes 179 = .ok (.ireturn, 1) := by decide +kernel
theorem dX11_loss_0 : decode cX11_loss 0 = .ok (.lload_n 1, 1) := by decide +kernel
theorem dX11_loss_1 : decode cX11_loss 1 = .ok (.lconst 0, 1) := by decide +kernel
theorem dX11_loss_2 : decode cX11_loss 2 = .ok (.ldc2_w 187, 3) := by decide +kernel
theorem dX11_loss_5 : decode cX11_loss 5 = .ok (.invokestatic 72, 3) := by decide +kernel
theorem dX11_loss_8 : decode cX11_loss 8 = .ok (.ifCond .ne 5, 3) := by decide +kernel
theorem dX11_loss_11 : decode cX11_loss 11 = .ok (.iconst (-1), 1) := by decide +kernel
theorem dX11_loss_12 : decode cX11_loss 12 = .ok (.ireturn, 1) := by decide +kernel
theorem dX11_loss_13 : decode cX11_loss 13 = .ok (.aload_n 0, 1) := by decide +kernel
theorem dX11_loss_14 : decode cX11_loss 14 = .ok (.getfield 7, 3) := by decide +kernel
theorem dX11_loss_17 : decode cX11_loss 17 = .ok (.sipush 132, 3) := by decide +kernel
theorem dX11_loss_20 : decode cX11_loss 20 = .ok (.iaload, 1) := by decide +kernel
theorem dX11_loss_21 : decode cX11_loss 21 = .ok (.bipush 8, 2) := by decide +kernel
theorem dX11_loss_23 : decode cX11_loss 23 = .ok (.if_icmp .ne 6, 3) := by decide +kernel
theorem dX11_loss_26 : decode cX11_loss 26 = .ok (.bipush (-3), 2) := by decide +kernel
theorem dX11_loss_28 : decode cX11_loss 28 = .ok (.ireturn, 1) := by decide +kernel
theorem dX11_loss_29 : decode cX11_loss 29 = .ok (.aload_n 0, 1) := by decide +kernel
theorem dX11_loss_30 : decode cX11_loss 30 = .ok (.getfield 13, 3) := by decide +kernel
theorem dX11_loss_33 : decode cX11_loss 33 = .ok (.aload_n 0, 1) := by decide +kernel
theorem dX11_loss_34 : decode cX11_loss 34 = .ok (.getfield 7, 3) := by decide +kernel
theorem dX11_loss_37 : decode cX11_loss 37 = .ok (.sipush 132, 3) := by decide +kernel
theorem dX11_loss_40 : decode cX11_loss 40 = .ok (.iaload, 1) := by decide +kernel
theorem dX11_loss_41 : decode cX11_loss 41 = .ok (.lload_n 1, 1) := by decide +kernel
theorem dX11_loss_42 : decode cX11_loss 42 = .ok (.lastore, 1) := by decide +kernel
theorem dX11_loss_43 : decode cX11_loss 43 = .ok (.aload_n 0, 1) := by decide +kernel
theorem dX11_loss_44 : decode cX11_loss 44 = .ok (.getfield 7, 3) := by decide +kernel
theorem dX11_loss_47 : decode cX11_loss 47 = .ok (.sipush 132, 3) := by decide +kernel
theorem dX11_loss_50 : decode cX11_loss 50 = .ok (.dup2, 1) := by decide +kernel
theorem dX11_loss_51 : decode cX11_loss 51 = .ok (.iaload, 1) := by decide +kernel
theorem dX11_loss_52 : decode cX11_loss 52 = .ok (.iconst 1, 1) := by decide +kernel
theorem dX11_loss_53 : decode cX11_loss 53 = .ok (.iadd, 1) := by decide +kernel
theorem dX11_loss_54 : decode cX11_loss 54 = .ok (.iastore, 1) := by decide +kernel
theorem dX11_loss_55 : decode cX11_loss 55 = .ok (.aload_n 0, 1) := by decide +kernel
theorem dX11_loss_56 : decode cX11_loss 56 = .ok (.getfield 7, 3) := by decide +kernel
theorem dX11_loss_59 : decode cX11_loss 59 = .ok (.sipush 132, 3) := by decide +kernel
theorem dX11_loss_62 : decode cX11_loss 62 = .ok (.iaload, 1) := by decide +kernel
theorem dX11_loss_63 : decode cX11_loss 63 = .ok (.iconst 1, 1) := by decide +kernel
theorem dX11_loss_64 : decode cX11_loss 64 = .ok (.isub, 1) := by decide +kernel
theorem dX11_loss_65 : decode cX11_loss 65 = .ok (.ireturn, 1) := by decide +kernel
theorem dX11_lostBy_0 : decode cX11_lostBy 0 = .ok (.iconst 0, 1) := by decide +kernel
theorem dX11_lostBy_1 : decode cX11_lostBy 1 = .ok (.istore_n 3, 1) := by decide +kernel
theorem dX11_lostBy_2 : decode cX11_lostBy 2 = .ok (.iconst 0, 1) := by decide +kernel
theorem dX11_lostBy_3 : decode cX11_lostBy 3 = .ok (.istore 4, 2) := by decide +kernel
theorem dX11_lostBy_5 : decode cX11_lostBy 5 = .ok (.iload 4, 2) := by decide +kernel
theorem dX11_lostBy_7 : decode cX11_lostBy 7 = .ok (.bipush 24, 2) := by decide +kernel
theorem dX11_lostBy_9 : decode cX11_lostBy 9 = .ok (.if_icmp .ge 148, 3) := by decide +kernel
theorem dX11_lostBy_12 : decode cX11_lostBy 12 = .ok (.iconst 0, 1) := by decide +kernel
theorem dX11_lostBy_13 : decode cX11_lostBy 13 = .ok (.istore 5, 2) := by decide +kernel
theorem dX11_lostBy_15 : decode cX11_lostBy 15 = .ok (.iconst 0, 1) := by decide +kernel
theorem dX11_lostBy_16 : decode cX11_lostBy 16 = .ok (.istore 6, 2) := by decide +kernel
theorem dX11_lostBy_18 : decode cX11_lostBy 18 = .ok (.iload 4, 2) := by decide +kernel
theorem dX11_lostBy_20 : decode cX11_lostBy 20 = .ok (.istore 7, 2) := by decide +kernel
theorem dX11_lostBy_22 : decode cX11_lostBy 22 = .ok (.iload 7, 2) := by decide +kernel
theorem dX11_lostBy_24 : decode cX11_lostBy 24 = .ok (.iload 4, 2) := by decide +kernel
theorem dX11_lostBy_26 : decode cX11_lostBy 26 = .ok (.iload_n 2, 1) := by decide +kernel
theorem dX11_lostBy_27 : decode cX11_lostBy 27 = .ok (.iadd, 1) := by decide +kernel
theorem dX11_lostBy_28 : decode cX11_lostBy 28 = .ok (.if_icmp .ge 72, 3) := by decide +kernel
theorem dX11_lostBy_31 : decode cX11_lostBy 31 = .ok (.iload 7, 2) := by decide +kernel
theorem dX11_lostBy_33 : decode cX11_lostBy 33 = .ok (.bipush 24, 2) := by decide +kernel
theorem dX11_lostBy_35 : decode cX11_lostBy 35 = .ok (.if_icmp .ge 65, 3) := by decide +kernel
theorem dX11_lostBy_38 : decode cX11_lostBy 38 = .ok (.aload_n 0, 1) := by decide +kernel
theorem dX11_lostBy_39 : decode cX11_lostBy 39 = .ok (.getfield 13, 3) := by decide +kernel
theorem dX11_lostBy_42 : decode cX11_lostBy 42 = .ok (.iload_n 1, 1) := by decide +kernel
theorem dX11_lostBy_43 : decode cX11_lostBy 43 = .ok (.laload, 1) := by decide +kernel
theorem dX11_lostBy_44 : decode cX11_lostBy 44 = .ok (.iload 7, 2) := by decide +kernel
theorem dX11_lostBy_46 : decode cX11_lostBy 46 = .ok (.lshr, 1) := by decide +kernel
theorem dX11_lostBy_47 : decode cX11_lostBy 47 = .ok (.lconst 1, 1) := by decide +kernel
theorem dX11_lostBy_48 : decode cX11_lostBy 48 = .ok (.land, 1) := by decide +kernel
theorem dX11_lostBy_49 : decode cX11_lostBy 49 = .ok (.lconst 1, 1) := by decide +kernel
theorem dX11_lostBy_50 : decode cX11_lostBy 50 = .ok (.lcmp, 1) := by decide +kernel
theorem dX11_lostBy_51 : decode cX11_lostBy 51 = .ok (.ifCond .ne 7, 3) := by decide +kernel
theorem dX11_lostBy_54 : decode cX11_lostBy 54 = .ok (.iconst 1, 1) := by decide +kernel
theorem dX11_lostBy_55 : decode cX11_lostBy 55 = .ok (.goto 4, 3) := by decide +kernel
theorem dX11_lostBy_58 : decode cX11_lostBy 58 = .ok (.iconst 0, 1) := by decide +kernel
theorem dX11_lostBy_59 : decode cX11_lostBy 59 = .ok (.istore 8, 2) := by decide +kernel
theorem dX11_lostBy_61 : decode cX11_lostBy 61 = .ok (.iload 5, 2) := by decide +kernel
theorem dX11_lostBy_63 : decode cX11_lostBy 63 = .ok (.iload 8, 2) := by decide +kernel
theorem dX11_lostBy_65 : decode cX11_lostBy 65 = .ok (.ifCond .eq 10, 3) := by decide +kernel
theorem dX11_lostBy_68 : decode cX11_lostBy 68 = .ok (.iconst 1, 1) := by decide +kernel
theorem dX11_lostBy_69 : decode cX11_lostBy 69 = .ok (.iload 7, 2) := by decide +kernel
theorem dX11_lostBy_71 : decode cX11_lostBy 71 = .ok (.ishl, 1) := by decide +kernel
theorem dX11_lostBy_72 : decode cX11_lostBy 72 = .ok (.goto 4, 3) := by decide +kernel
theorem dX11_lostBy_75 : decode cX11_lostBy 75 = .ok (.iconst 0, 1) := by decide +kernel
theorem dX11_lostBy_76 : decode cX11_lostBy 76 = .ok (.ior, 1) := by decide +kernel
theorem dX11_lostBy_77 : decode cX11_lostBy 77 = .ok (.istore 5, 2) := by decide +kernel
theorem dX11_lostBy_79 : decode cX11_lostBy 79 = .ok (.iload 6, 2) := by decide +kernel
theorem dX11_lostBy_81 : decode cX11_lostBy 81 = .ok (.iload 8, 2) := by decide +kernel
theorem dX11_lostBy_83 : decode cX11_lostBy 83 = .ok (.ifCond .eq 7, 3) := by decide +kernel
theorem dX11_lostBy_86 : decode cX11_lostBy 86 = .ok (.iconst 1, 1) := by decide +kernel
theorem dX11_lostBy_87 : decode cX11_lostBy 87 = .ok (.goto 4, 3) := by decide +kernel
theorem dX11_lostBy_90 : decode cX11_lostBy 90 = .ok (.iconst 0, 1) := by decide +kernel
theorem dX11_lostBy_91 : decode cX11_lostBy 91 = .ok (.iadd, 1) := by decide +kernel
theorem dX11_lostBy_92 : decode cX11_lostBy 92 = .ok (.istore 6, 2) := by decide +kernel
theorem dX11_lostBy_94 : decode cX11_lostBy 94 = .ok (.iinc 7 1, 3) := by decide +kernel
theorem dX11_lostBy_97 : decode cX11_lostBy 97 = .ok (.goto (-75), 3) := by decide +kernel
theorem dX11_lostBy_100 : decode cX11_lostBy 100 = .ok (.aload_n 0, 1) := by decide +kernel
theorem dX11_lostBy_101 : decode cX11_lostBy 101 = .ok (.getfield 13, 3) := by decide +kernel
theorem dX11_lostBy_104 : decode cX11_lostBy 104 = .ok (.iload_n 1, 1) := by decide +kernel
theorem dX11_lostBy_105 : decode cX11_lostBy 105 = .ok (.laload, 1) := by decide +kernel
theorem dX11_lostBy_106 : decode cX11_lostBy 106 = .ok (.bipush 24, 2) := by decide +kernel
theorem dX11_lostBy_108 : decode cX11_lostBy 108 = .ok (.iload 4, 2) := by decide +kernel
theorem dX11_lostBy_110 : decode cX11_lostBy 110 = .ok (.iload_n 2, 1) := by decide +kernel
theorem dX11_lostBy_111 : decode cX11_lostBy 111 = .ok (.idiv, 1) := by decide +kernel
theorem dX11_lostBy_112 : decode cX11_lostBy 112 = .ok (.iadd, 1) := by decide +kernel
theorem dX11_lostBy_113 : decode cX11_lostBy 113 = .ok (.lshr, 1) := by decide +kernel
theorem dX11_lostBy_114 : decode cX11_lostBy 114 = .ok (.lconst 1, 1) := by decide +kernel
theorem dX11_lostBy_115 : decode cX11_lostBy 115 = .ok (.land, 1) := by decide +kernel
theorem dX11_lostBy_116 : decode cX11_lostBy 116 = .ok (.lconst 1, 1) := by decide +kernel
theorem dX11_lostBy_117 : decode cX11_lostBy 117 = .ok (.lcmp, 1) := by decide +kernel
theorem dX11_lostBy_118 : decode cX11_lostBy 118 = .ok (.ifCond .ne 7, 3) := by decide +kernel
theorem dX11_lostBy_121 : decode cX11_lostBy 121 = .ok (.iconst 1, 1) := by decide +kernel
theorem dX11_lostBy_122 : decode cX11_lostBy 122 = .ok (.goto 4, 3) := by decide +kernel
theorem dX11_lostBy_125 : decode cX11_lostBy 125 = .ok (.iconst 0, 1) := by decide +kernel
theorem dX11_lostBy_126 : decode cX11_lostBy 126 = .ok (.istore 7, 2) := by decide +kernel
theorem dX11_lostBy_128 : decode cX11_lostBy 128 = .ok (.iload_n 3, 1) := by decide +kernel
theorem dX11_lostBy_129 : decode cX11_lostBy 129 = .ok (.iload 6, 2) := by decide +kernel
theorem dX11_lostBy_131 : decode cX11_lostBy 131 = .ok (.iconst 1, 1) := by decide +kernel
theorem dX11_lostBy_132 : decode cX11_lostBy 132 = .ok (.if_icmp .ne 12, 3) := by decide +kernel
theorem dX11_lostBy_135 : decode cX11_lostBy 135 = .ok (.iload 7, 2) := by decide +kernel
theorem dX11_lostBy_137 : decode cX11_lostBy 137 = .ok (.ifCond .ne 7, 3) := by decide +kernel
theorem dX11_lostBy_140 : decode cX11_lostBy 140 = .ok (.iconst 0, 1) := by decide +kernel
theorem dX11_lostBy_141 : decode cX11_lostBy 141 = .ok (.goto 5, 3) := by decide +kernel
theorem dX11_lostBy_144 : decode cX11_lostBy 144 = .ok (.iload 5, 2) := by decide +kernel
theorem dX11_lostBy_146 : decode cX11_lostBy 146 = .ok (.ior, 1) := by decide +kernel
theorem dX11_lostBy_147 : decode cX11_lostBy 147 = .ok (.istore_n 3, 1) := by decide +kernel
theorem dX11_lostBy_148 : decode cX11_lostBy 148 = .ok (.iload 4, 2) := by decide +kernel
theorem dX11_lostBy_150 : decode cX11_lostBy 150 = .ok (.iload_n 2, 1) := by decide +kernel
theorem dX11_lostBy_151 : decode cX11_lostBy 151 = .ok (.iadd, 1) := by decide +kernel
theorem dX11_lostBy_152 : decode cX11_lostBy 152 = .ok (.istore 4, 2) := by decide +kernel
theorem dX11_lostBy_154 : decode cX11_lostBy 154 = .ok (.goto (-149), 3) := by decide +kernel
theorem dX11_lostBy_157 : decode cX11_lostBy 157 = .ok (.iload_n 3, 1) := by decide +kernel
theorem dX11_lostBy_158 : decode cX11_lostBy 158 = .ok (.ireturn, 1) := by decide +kernel
theorem dX11_lost_0 : decode cX11_lost 0 = .ok (.iload_n 1, 1) := by decide +kernel
theorem dX11_lost_1 : decode cX11_lost 1 = .ok (.i2l, 1) := by decide +kernel
theorem dX11_lost_2 : decode cX11_lost 2 = .ok (.lconst 0, 1) := by decide +kernel
theorem dX11_lost_3 : decode cX11_lost 3 = .ok (.aload_n 0, 1) := by decide +kernel
theorem dX11_lost_4 : decode cX11_lost 4 = .ok (.getfield 7, 3) := by decide +kernel
theorem dX11_lost_7 : decode cX11_lost 7 = .ok (.sipush 132, 3) := by decide +kernel
theorem dX11_lost_10 : decode cX11_lost 10 = .ok (.iaload, 1) := by decide +kernel
theorem dX11_lost_11 : decode cX11_lost 11 = .ok (.iconst 1, 1) := by decide +kernel
theorem dX11_lost_12 : decode cX11_lost 12 = .ok (.isub, 1) := by decide +kernel
theorem dX11_lost_13 : decode cX11_lost 13 = .ok (.i2l, 1) := by decide +kernel
theorem dX11_lost_14 : decode cX11_lost 14 = .ok (.invokestatic 72, 3) := by decide +kernel
theorem dX11_lost_17 : decode cX11_lost 17 = .ok (.ifCond .eq 24, 3) := by decide +kernel
theorem dX11_lost_20 : decode cX11_lost 20 = .ok (.iload_n 2, 1) := by decide +kernel
theorem dX11_lost_21 : decode cX11_lost 21 = .ok (.i2l, 1) := by decide +kernel
theorem dX11_lost_22 : decode cX11_lost 22 = .ok (.lconst 1, 1) := by decide +kernel
theorem dX11_lost_23 : decode cX11_lost 23 = .ok (.ldc2_w 189, 3) := by decide +kernel
theorem dX11_lost_26 : decode cX11_lost 26 = .ok (.invokestatic 72, 3) := by decide +kernel
theorem dX11_lost_29 : decode cX11_lost 29 = .ok (.ifCond .eq 12, 3) := by decide +kernel
theorem dX11_lost_32 : decode cX11_lost 32 = .ok (.aload_n 0, 1) := by decide +kernel
theorem dX11_lost_33 : decode cX11_lost 33 = .ok (.iload_n 1, 1) := by decide +kernel
theorem dX11_lost_34 : decode cX11_lost 34 = .ok (.iload_n 2, 1) := by decide +kernel
theorem dX11_lost_35 : decode cX11_lost 35 = .ok (.invokevirtual 191, 3) := by decide +kernel
theorem dX11_lost_38 : decode cX11_lost 38 = .ok (.goto 4, 3) := by decide +kernel
theorem dX11_lost_41 : decode cX11_lost 41 = .ok (.iconst (-1), 1) := by decide +kernel
theorem dX11_lost_42 : decode cX11_lost 42 = .ok (.ireturn, 1) := by decide +kernel
theorem dX11_group_0 : decode cX11_group 0 = .ok (.bipush 12, 2) := by decide +kernel
theorem dX11_group_2 : decode cX11_group 2 = .ok (.istore_n 1, 1) := by decide +kernel
theorem dX11_group_3 : decode cX11_group 3 = .ok (.iload_n 1, 1) := by decide +kernel
theorem dX11_group_4 : decode cX11_group 4 = .ok (.ifCond .le 56, 3) := by decide +kernel
theorem dX11_group_7 : decode cX11_group 7 = .ok (.iconst 1, 1) := by decide +kernel
theorem dX11_group_8 : decode cX11_group 8 = .ok (.istore_n 2, 1) := by decide +kernel
theorem dX11_group_9 : decode cX11_group 9 = .ok (.iconst 0, 1) := by decide +kernel
theorem dX11_group_10 : decode cX11_group 10 = .ok (.istore_n 3, 1) := by decide +kernel
theorem dX11_group_11 : decode cX11_group 11 = .ok (.iload_n 3, 1) := by decide +kernel
theorem dX11_group_12 : decode cX11_group 12 = .ok (.aload_n 0, 1) := by decide +kernel
theorem dX11_group_13 : decode cX11_group 13 = .ok (.getfield 7, 3) := by decide +kernel
theorem dX11_group_16 : decode cX11_group 16 = .ok (.sipush 132, 3) := by decide +kernel
theorem dX11_group_19 : decode cX11_group 19 = .ok (.iaload, 1) := by decide +kernel
theorem dX11_group_20 : decode cX11_group 20 = .ok (.if_icmp .ge 28, 3) := by decide +kernel
theorem dX11_group_23 : decode cX11_group 23 = .ok (.iload_n 2, 1) := by decide +kernel
theorem dX11_group_24 : decode cX11_group 24 = .ok (.ifCond .eq 16, 3) := by decide +kernel
theorem dX11_group_27 : decode cX11_group 27 = .ok (.aload_n 0, 1) := by decide +kernel
theorem dX11_group_28 : decode cX11_group 28 = .ok (.iload_n 3, 1) := by decide +kernel
theorem dX11_group_29 : decode cX11_group 29 = .ok (.iload_n 1, 1) := by decide +kernel
theorem dX11_group_30 : decode cX11_group 30 = .ok (.invokevirtual 191, 3) := by decide +kernel
theorem dX11_group_33 : decode cX11_group 33 = .ok (.ifCond .ne 7, 3) := by decide +kernel
theorem dX11_group_36 : decode cX11_group 36 = .ok (.iconst 1, 1) := by decide +kernel
theorem dX11_group_37 : decode cX11_group 37 = .ok (.goto 4, 3) := by decide +kernel
theorem dX11_group_40 : decode cX11_group 40 = .ok (.iconst 0, 1) := by decide +kernel
theorem dX11_group_41 : decode cX11_group 41 = .ok (.istore_n 2, 1) := by decide +kernel
theorem dX11_group_42 : decode cX11_group 42 = .ok (.iinc 3 1, 3) := by decide +kernel
theorem dX11_group_45 : decode cX11_group 45 = .ok (.goto (-34), 3) := by decide +kernel
theorem dX11_group_48 : decode cX11_group 48 = .ok (.iload_n 2, 1) := by decide +kernel
theorem dX11_group_49 : decode cX11_group 49 = .ok (.ifCond .eq 5, 3) := by decide +kernel
theorem dX11_group_52 : decode cX11_group 52 = .ok (.iload_n 1, 1) := by decide +kernel
theorem dX11_group_53 : decode cX11_group 53 = .ok (.ireturn, 1) := by decide +kernel
theorem dX11_group_54 : decode cX11_group 54 = .ok (.iinc 1 (-1), 3) := by decide +kernel
theorem dX11_group_57 : decode cX11_group 57 = .ok (.goto (-54), 3) := by decide +kernel
theorem dX11_group_60 : decode cX11_group 60 = .ok (.bipush (-4), 2) := by decide +kernel
theorem dX11_group_62 : decode cX11_group 62 = .ok (.ireturn, 1) := by decide +kernel
theorem dX11_clear_0 : decode cX11_clear 0 = .ok (.aload_n 0, 1) := by decide +kernel
theorem dX11_clear_1 : decode cX11_clear 1 = .ok (.getfield 7, 3) := by decide +kernel
theorem dX11_clear_4 : decode cX11_clear 4 = .ok (.sipush 132, 3) := by decide +kernel
theorem dX11_clear_7 : decode cX11_clear 7 = .ok (.iaload, 1) := by decide +kernel
theorem dX11_clear_8 : decode cX11_clear 8 = .ok (.istore_n 1, 1) := by decide +kernel
theorem dX11_clear_9 : decode cX11_clear 9 = .ok (.aload_n 0, 1) := by decide +kernel
theorem dX11_clear_10 : decode cX11_clear 10 = .ok (.getfield 7, 3) := by decide +kernel
theorem dX11_clear_13 : decode cX11_clear 13 = .ok (.sipush 132, 3) := by decide +kernel
theorem dX11_clear_16 : decode cX11_clear 16 = .ok (.iconst 0, 1) := by decide +kernel
theorem dX11_clear_17 : decode cX11_clear 17 = .ok (.iastore, 1) := by decide +kernel
theorem dX11_clear_18 : decode cX11_clear 18 = .ok (.iload_n 1, 1) := by decide +kernel
theorem dX11_clear_19 : decode cX11_clear 19 = .ok (.ireturn, 1) := by decide +kernel
theorem dX11_most_0 : decode cX11_most 0 = .ok (.iload_n 1, 1) := by decide +kernel
theorem dX11_most_1 : decode cX11_most 1 = .ok (.i2l, 1) := by decide +kernel
theorem dX11_most_2 : decode cX11_most 2 = .ok (.lconst 1, 1) := by decide +kernel
theorem dX11_most_3 : decode cX11_most 3 = .ok (.ldc2_w 181, 3) := by decide +kernel
theorem dX11_most_6 : decode cX11_most 6 = .ok (.invokestatic 72, 3) := by decide +kernel
theorem dX11_most_9 : decode cX11_most 9 = .ok (.ifCond .ne 5, 3) := by decide +kernel
theorem dX11_most_12 : decode cX11_most 12 = .ok (.iconst (-1), 1) := by decide +kernel
theorem dX11_most_13 : decode cX11_most 13 = .ok (.ireturn, 1) := by decide +kernel
theorem dX11_most_14 : decode cX11_most 14 = .ok (.aload_n 0, 1) := by decide +kernel
theorem dX11_most_15 : decode cX11_most 15 = .ok (.getfield 7, 3) := by decide +kernel
theorem dX11_most_18 : decode cX11_most 18 = .ok (.sipush 131, 3) := by decide +kernel
theorem dX11_most_21 : decode cX11_most 21 = .ok (.iaload, 1) := by decide +kernel
theorem dX11_most_22 : decode cX11_most 22 = .ok (.istore_n 2, 1) := by decide +kernel
theorem dX11_most_23 : decode cX11_most 23 = .ok (.aload_n 0, 1) := by decide +kernel
theorem dX11_most_24 : decode cX11_most 24 = .ok (.getfield 7, 3) := by decide +kernel
theorem dX11_most_27 : decode cX11_most 27 = .ok (.sipush 131, 3) := by decide +kernel
theorem dX11_most_30 : decode cX11_most 30 = .ok (.iload_n 1, 1) := by decide +kernel
theorem dX11_most_31 : decode cX11_most 31 = .ok (.iastore, 1) := by decide +kernel
theorem dX11_most_32 : decode cX11_most 32 = .ok (.iload_n 2, 1) := by decide +kernel
theorem dX11_most_33 : decode cX11_most 33 = .ok (.ireturn, 1) := by decide +kernel
theorem dX11_parts_0 : decode cX11_parts 0 = .ok (.iconst 0, 1) := by decide +kernel
theorem dX11_parts_1 : decode cX11_parts 1 = .ok (.istore_n 2, 1) := by decide +kernel
theorem dX11_parts_2 : decode cX11_parts 2 = .ok (.iload_n 2, 1) := by decide +kernel
theorem dX11_parts_3 : decode cX11_parts 3 = .ok (.iload_n 1, 1) := by decide +kernel
theorem dX11_parts_4 : decode cX11_parts 4 = .ok (.if_icmp .ge 16, 3) := by decide +kernel
theorem dX11_parts_7 : decode cX11_parts 7 = .ok (.aload_n 0, 1) := by decide +kernel
theorem dX11_parts_8 : decode cX11_parts 8 = .ok (.getfield 41, 3) := by decide +kernel
theorem dX11_parts_11 : decode cX11_parts 11 = .ok (.iload_n 2, 1) := by decide +kernel
theorem dX11_parts_12 : decode cX11_parts 12 = .ok (.iconst 1, 1) := by decide +kernel
theorem dX11_parts_13 : decode cX11_parts 13 = .ok (.iastore, 1) := by decide +kernel
theorem dX11_parts_14 : decode cX11_parts 14 = .ok (.iinc 2 1, 3) := by decide +kernel
theorem dX11_parts_17 : decode cX11_parts 17 = .ok (.goto (-15), 3) := by decide +kernel
theorem dX11_parts_20 : decode cX11_parts 20 = .ok (.iconst 0, 1) := by decide +kernel
theorem dX11_parts_21 : decode cX11_parts 21 = .ok (.istore_n 2, 1) := by decide +kernel
theorem dX11_parts_22 : decode cX11_parts 22 = .ok (.iload_n 2, 1) := by decide +kernel
theorem dX11_parts_23 : decode cX11_parts 23 = .ok (.iload_n 1, 1) := by decide +kernel
theorem dX11_parts_24 : decode cX11_parts 24 = .ok (.iconst 2, 1) := by decide +kernel
theorem dX11_parts_25 : decode cX11_parts 25 = .ok (.isub, 1) := by decide +kernel
theorem dX11_parts_26 : decode cX11_parts 26 = .ok (.if_icmp .ge 24, 3) := by decide +kernel
theorem dX11_parts_29 : decode cX11_parts 29 = .ok (.aload_n 0, 1) := by decide +kernel
theorem dX11_parts_30 : decode cX11_parts 30 = .ok (.getfield 41, 3) := by decide +kernel
theorem dX11_parts_33 : decode cX11_parts 33 = .ok (.aload_n 0, 1) := by decide +kernel
theorem dX11_parts_34 : decode cX11_parts 34 = .ok (.getfield 38, 3) := by decide +kernel
theorem dX11_parts_37 : decode cX11_parts 37 = .ok (.iload_n 2, 1) := by decide +kernel
theorem dX11_parts_38 : decode cX11_parts 38 = .ok (.iaload, 1) := by decide +kernel
theorem dX11_parts_39 : decode cX11_parts 39 = .ok (.dup2, 1) := by decide +kernel
theorem dX11_parts_40 : decode cX11_parts 40 = .ok (.iaload, 1) := by decide +kernel
theorem dX11_parts_41 : decode cX11_parts 41 = .ok (.iconst 1, 1) := by decide +kernel
theorem dX11_parts_42 : decode cX11_parts 42 = .ok (.iadd, 1) := by decide +kernel
theorem dX11_parts_43 : decode cX11_parts 43 = .ok (.iastore, 1) := by decide +kernel
theorem dX11_parts_44 : decode cX11_parts 44 = .ok (.iinc 2 1, 3) := by decide +kernel
theorem dX11_parts_47 : decode cX11_parts 47 = .ok (.goto (-25), 3) := by decide +kernel
theorem dX11_parts_50 : decode cX11_parts 50 = .ok (.iconst 1, 1) := by decide +kernel
theorem dX11_parts_51 : decode cX11_parts 51 = .ok (.istore_n 2, 1) := by decide +kernel
theorem dX11_parts_52 : decode cX11_parts 52 = .ok (.iconst 0, 1) := by decide +kernel
theorem dX11_parts_53 : decode cX11_parts 53 = .ok (.istore_n 3, 1) := by decide +kernel
theorem dX11_parts_54 : decode cX11_parts 54 = .ok (.iload_n 3, 1) := by decide +kernel
theorem dX11_parts_55 : decode cX11_parts 55 = .ok (.iload_n 1, 1) := by decide +kernel
theorem dX11_parts_56 : decode cX11_parts 56 = .ok (.if_icmp .ge 36, 3) := by decide +kernel
theorem dX11_parts_59 : decode cX11_parts 59 = .ok (.iload_n 2, 1) := by decide +kernel
theorem dX11_parts_60 : decode cX11_parts 60 = .ok (.ifCond .eq 24, 3) := by decide +kernel
theorem dX11_parts_63 : decode cX11_parts 63 = .ok (.aload_n 0, 1) := by decide +kernel
theorem dX11_parts_64 : decode cX11_parts 64 = .ok (.getfield 41, 3) := by decide +kernel
theorem dX11_parts_67 : decode cX11_parts 67 = .ok (.iload_n 3, 1) := by decide +kernel
theorem dX11_parts_68 : decode cX11_parts 68 = .ok (.iaload, 1) := by decide +kernel
theorem dX11_parts_69 : decode cX11_parts 69 = .ok (.aload_n 0, 1) := by decide +kernel
theorem dX11_parts_70 : decode cX11_parts 70 = .ok (.getfield 7, 3) := by decide +kernel
theorem dX11_parts_73 : decode cX11_parts 73 = .ok (.sipush 131, 3) := by decide +kernel
theorem dX11_parts_76 : decode cX11_parts 76 = .ok (.iaload, 1) := by decide +kernel
theorem dX11_parts_77 : decode cX11_parts 77 = .ok (.if_icmp .gt 7, 3) := by decide +kernel
theorem dX11_parts_80 : decode cX11_parts 80 = .ok (.iconst 1, 1) := by decide +kernel
theorem dX11_parts_81 : decode cX11_parts 81 = .ok (.goto 4, 3) := by decide +kernel
theorem dX11_parts_84 : decode cX11_parts 84 = .ok (.iconst 0, 1) := by decide +kernel
theorem dX11_parts_85 : decode cX11_parts 85 = .ok (.istore_n 2, 1) := by decide +kernel
theorem dX11_parts_86 : decode cX11_parts 86 = .ok (.iinc 3 1, 3) := by decide +kernel
theorem dX11_parts_89 : decode cX11_parts 89 = .ok (.goto (-35), 3) := by decide +kernel
theorem dX11_parts_92 : decode cX11_parts 92 = .ok (.iconst 0, 1) := by decide +kernel
theorem dX11_parts_93 : decode cX11_parts 93 = .ok (.istore_n 3, 1) := by decide +kernel
theorem dX11_parts_94 : decode cX11_parts 94 = .ok (.iconst 0, 1) := by decide +kernel
theorem dX11_parts_95 : decode cX11_parts 95 = .ok (.istore 4, 2) := by decide +kernel
theorem dX11_parts_97 : decode cX11_parts 97 = .ok (.iload 4, 2) := by decide +kernel
theorem dX11_parts_99 : decode cX11_parts 99 = .ok (.iload_n 1, 1) := by decide +kernel
theorem dX11_parts_100 : decode cX11_parts 100 = .ok (.iconst 2, 1) := by decide +kernel
theorem dX11_parts_101 : decode cX11_parts 101 = .ok (.isub, 1) := by decide +kernel
theorem dX11_parts_102 : decode cX11_parts 102 = .ok (.if_icmp .ge 83, 3) := by decide +kernel
theorem dX11_parts_105 : decode cX11_parts 105 = .ok (.iconst 0, 1) := by decide +kernel
theorem dX11_parts_106 : decode cX11_parts 106 = .ok (.istore 5, 2) := by decide +kernel
theorem dX11_parts_108 : decode cX11_parts 108 = .ok (.aload_n 0, 1) := by decide +kernel
theorem dX11_parts_109 : decode cX11_parts 109 = .ok (.getfield 41, 3) := by decide +kernel
theorem dX11_parts_112 : decode cX11_parts 112 = .ok (.iload 5, 2) := by decide +kernel
theorem dX11_parts_114 : decode cX11_parts 114 = .ok (.iaload, 1) := by decide +kernel
theorem dX11_parts_115 : decode cX11_parts 115 = .ok (.iconst 1, 1) := by decide +kernel
theorem dX11_parts_116 : decode cX11_parts 116 = .ok (.if_icmp .eq 9, 3) := by decide +kernel
theorem dX11_parts_119 : decode cX11_parts 119 = .ok (.iinc 5 1, 3) := by decide +kernel
theorem dX11_parts_122 : decode cX11_parts 122 = .ok (.goto (-14), 3) := by decide +kernel
theorem dX11_parts_125 : decode cX11_parts 125 = .ok (.aload_n 0, 1) := by decide +kernel
theorem dX11_parts_126 : decode cX11_parts 126 = .ok (.getfield 44, 3) := by decide +kernel
theorem dX11_parts_129 : decode cX11_parts 129 = .ok (.iconst 2, 1) := by decide +kernel
theorem dX11_parts_130 : decode cX11_parts 130 = .ok (.iload_n 3, 1) := by decide +kernel
theorem dX11_parts_131 : decode cX11_parts 131 = .ok (.imul, 1) := by decide +kernel
theorem dX11_parts_132 : decode cX11_parts 132 = .ok (.iload 5, 2) := by decide +kernel
theorem dX11_parts_134 : decode cX11_parts 134 = .ok (.iastore, 1) := by decide +kernel
theorem dX11_parts_135 : decode cX11_parts 135 = .ok (.aload_n 0, 1) := by decide +kernel
theorem dX11_parts_136 : decode cX11_parts 136 = .ok (.getfield 44, 3) := by decide +kernel
theorem dX11_parts_139 : decode cX11_parts 139 = .ok (.iconst 2, 1) := by decide +kernel
theorem dX11_parts_140 : decode cX11_parts 140 = .ok (.iload_n 3, 1) := by decide +kernel
theorem dX11_parts_141 : decode cX11_parts 141 = .ok (.imul, 1) := by decide +kernel
theorem dX11_parts_142 : decode cX11_parts 142 = .ok (.iconst 1, 1) := by decide +kernel
theorem dX11_parts_143 : decode cX11_parts 143 = .ok (.iadd, 1) := by decide +kernel
theorem dX11_parts_144 : decode cX11_parts 144 = .ok (.aload_n 0, 1) := by decide +kernel
theorem dX11_parts_145 : decode cX11_parts 145 = .ok (.getfield 38, 3) := by decide +kernel
theorem dX11_parts_148 : decode cX11_parts 148 = .ok (.iload 4, 2) := by decide +kernel
theorem dX11_parts_150 : decode cX11_parts 150 = .ok (.iaload, 1) := by decide +kernel
theorem dX11_parts_151 : decode cX11_parts 151 = .ok (.iastore, 1) := by decide +kernel
theorem dX11_parts_152 : decode cX11_parts 152 = .ok (.iinc 3 1, 3) := by decide +kernel
theorem dX11_parts_155 : decode cX11_parts 155 = .ok (.aload_n 0, 1) := by decide +kernel
theorem dX11_parts_156 : decode cX11_parts 156 = .ok (.getfield 41, 3) := by decide +kernel
theorem dX11_parts_159 : decode cX11_parts 159 = .ok (.iload 5, 2) := by decide +kernel
theorem dX11_parts_161 : decode cX11_parts 161 = .ok (.iconst 0, 1) := by decide +kernel
theorem dX11_parts_162 : decode cX11_parts 162 = .ok (.iastore, 1) := by decide +kernel
theorem dX11_parts_163 : decode cX11_parts 163 = .ok (.aload_n 0, 1) := by decide +kernel
theorem dX11_parts_164 : decode cX11_parts 164 = .ok (.getfield 41, 3) := by decide +kernel
theorem dX11_parts_167 : decode cX11_parts 167 = .ok (.aload_n 0, 1) := by decide +kernel
theorem dX11_parts_168 : decode cX11_parts 168 = .ok (.getfield 38, 3) := by decide +kernel
theorem dX11_parts_171 : decode cX11_parts 171 = .ok (.iload 4, 2) := by decide +kernel
theorem dX11_parts_173 : decode cX11_parts 173 = .ok (.iaload, 1) := by decide +kernel
theorem dX11_parts_174 : decode cX11_parts 174 = .ok (.dup2, 1) := by decide +kernel
theorem dX11_parts_175 : decode cX11_parts 175 = .ok (.iaload, 1) := by decide +kernel
theorem dX11_parts_176 : decode cX11_parts 176 = .ok (.iconst 1, 1) := by decide +kernel
theorem dX11_parts_177 : decode cX11_parts 177 = .ok (.isub, 1) := by decide +kernel
theorem dX11_parts_178 : decode cX11_parts 178 = .ok (.iastore, 1) := by decide +kernel
theorem dX11_parts_179 : decode cX11_parts 179 = .ok (.iinc 4 1, 3) := by decide +kernel
theorem dX11_parts_182 : decode cX11_parts 182 = .ok (.goto (-85), 3) := by decide +kernel
theorem dX11_parts_185 : decode cX11_parts 185 = .ok (.iconst 0, 1) := by decide +kernel
theorem dX11_parts_186 : decode cX11_parts 186 = .ok (.istore 4, 2) := by decide +kernel
theorem dX11_parts_188 : decode cX11_parts 188 = .ok (.aload_n 0, 1) := by decide +kernel
theorem dX11_parts_189 : decode cX11_parts 189 = .ok (.getfield 41, 3) := by decide +kernel
theorem dX11_parts_192 : decode cX11_parts 192 = .ok (.iload 4, 2) := by decide +kernel
theorem dX11_parts_194 : decode cX11_parts 194 = .ok (.iaload, 1) := by decide +kernel
theorem dX11_parts_195 : decode cX11_parts 195 = .ok (.iconst 1, 1) := by decide +kernel
theorem dX11_parts_196 : decode cX11_parts 196 = .ok (.if_icmp .eq 9, 3) := by decide +kernel
theorem dX11_parts_199 : decode cX11_parts 199 = .ok (.iinc 4 1, 3) := by decide +kernel
theorem dX11_parts_202 : decode cX11_parts 202 = .ok (.goto (-14), 3) := by decide +kernel
theorem dX11_parts_205 : decode cX11_parts 205 = .ok (.iload 4, 2) := by decide +kernel
theorem dX11_parts_207 : decode cX11_parts 207 = .ok (.iconst 1, 1) := by decide +kernel
theorem dX11_parts_208 : decode cX11_parts 208 = .ok (.iadd, 1) := by decide +kernel
theorem dX11_parts_209 : decode cX11_parts 209 = .ok (.istore 5, 2) := by decide +kernel
theorem dX11_parts_211 : decode cX11_parts 211 = .ok (.aload_n 0, 1) := by decide +kernel
theorem dX11_parts_212 : decode cX11_parts 212 = .ok (.getfield 41, 3) := by decide +kernel
theorem dX11_parts_215 : decode cX11_parts 215 = .ok (.iload 5, 2) := by decide +kernel
theorem dX11_parts_217 : decode cX11_parts 217 = .ok (.iaload, 1) := by decide +kernel
theorem dX11_parts_218 : decode cX11_parts 218 = .ok (.iconst 1, 1) := by decide +kernel
theorem dX11_parts_219 : decode cX11_parts 219 = .ok (.if_icmp .eq 9, 3) := by decide +kernel
theorem dX11_parts_222 : decode cX11_parts 222 = .ok (.iinc 5 1, 3) := by decide +kernel
theorem dX11_parts_225 : decode cX11_parts 225 = .ok (.goto (-14), 3) := by decide +kernel
theorem dX11_parts_228 : decode cX11_parts 228 = .ok (.aload_n 0, 1) := by decide +kernel
theorem dX11_parts_229 : decode cX11_parts 229 = .ok (.getfield 44, 3) := by decide +kernel
theorem dX11_parts_232 : decode cX11_parts 232 = .ok (.iconst 2, 1) := by decide +kernel
theorem dX11_parts_233 : decode cX11_parts 233 = .ok (.iload_n 3, 1) := by decide +kernel
theorem dX11_parts_234 : decode cX11_parts 234 = .ok (.imul, 1) := by decide +kernel
theorem dX11_parts_235 : decode cX11_parts 235 = .ok (.iload 4, 2) := by decide +kernel
theorem dX11_parts_237 : decode cX11_parts 237 = .ok (.iastore, 1) := by decide +kernel
theorem dX11_parts_238 : decode cX11_parts 238 = .ok (.aload_n 0, 1) := by decide +kernel
theorem dX11_parts_239 : decode cX11_parts 239 = .ok (.getfield 44, 3) := by decide +kernel
theorem dX11_parts_242 : decode cX11_parts 242 = .ok (.iconst 2, 1) := by decide +kernel
theorem dX11_parts_243 : decode cX11_parts 243 = .ok (.iload_n 3, 1) := by decide +kernel
theorem dX11_parts_244 : decode cX11_parts 244 = .ok (.imul, 1) := by decide +kernel
theorem dX11_parts_245 : decode cX11_parts 245 = .ok (.iconst 1, 1) := by decide +kernel
theorem dX11_parts_246 : decode cX11_parts 246 = .ok (.iadd, 1) := by decide +kernel
theorem dX11_parts_247 : decode cX11_parts 247 = .ok (.iload 5, 2) := by decide +kernel
theorem dX11_parts_249 : decode cX11_parts 249 = .ok (.iastore, 1) := by decide +kernel
theorem dX11_parts_250 : decode cX11_parts 250 = .ok (.iload_n 2, 1) := by decide +kernel
theorem dX11_parts_251 : decode cX11_parts 251 = .ok (.ireturn, 1) := by decide +kernel
theorem dX11_waitOf_0 : decode cX11_waitOf 0 = .ok (.iconst 0, 1) := by decide +kernel
theorem dX11_waitOf_1 : decode cX11_waitOf 1 = .ok (.istore_n 2, 1) := by decide +kernel
theorem dX11_waitOf_2 : decode cX11_waitOf 2 = .ok (.iload_n 2, 1) := by decide +kernel
theorem dX11_waitOf_3 : decode cX11_waitOf 3 = .ok (.bipush 36, 2) := by decide +kernel
theorem dX11_waitOf_5 : decode cX11_waitOf 5 = .ok (.if_icmp .ge 27, 3) := by decide +kernel
theorem dX11_waitOf_8 : decode cX11_waitOf 8 = .ok (.aload_n 0, 1) := by decide +kernel
theorem dX11_waitOf_9 : decode cX11_waitOf 9 = .ok (.getfield 47, 3) := by decide +kernel
theorem dX11_waitOf_12 : decode cX11_waitOf 12 = .ok (.iload_n 2, 1) := by decide +kernel
theorem dX11_waitOf_13 : decode cX11_waitOf 13 = .ok (.iload_n 2, 1) := by decide +kernel
theorem dX11_waitOf_14 : decode cX11_waitOf 14 = .ok (.bipush 7, 2) := by decide +kernel
theorem dX11_waitOf_16 : decode cX11_waitOf 16 = .ok (.irem, 1) := by decide +kernel
theorem dX11_waitOf_17 : decode cX11_waitOf 17 = .ok (.ifCond .ne 7, 3) := by decide +kernel
theorem dX11_waitOf_20 : decode cX11_waitOf 20 = .ok (.iconst 0, 1) := by decide +kernel
theorem dX11_waitOf_21 : decode cX11_waitOf 21 = .ok (.goto 4, 3) := by decide +kernel
theorem dX11_waitOf_24 : decode cX11_waitOf 24 = .ok (.iconst (-1), 1) := by decide +kernel
theorem dX11_waitOf_25 : decode cX11_waitOf 25 = .ok (.iastore, 1) := by decide +kernel
theorem dX11_waitOf_26 : decode cX11_waitOf 26 = .ok (.iinc 2 1, 3) := by decide +kernel
theorem dX11_waitOf_29 : decode cX11_waitOf 29 = .ok (.goto (-27), 3) := by decide +kernel
theorem dX11_waitOf_32 : decode cX11_waitOf 32 = .ok (.iload_n 1, 1) := by decide +kernel
theorem dX11_waitOf_33 : decode cX11_waitOf 33 = .ok (.iconst 2, 1) := by decide +kernel
theorem dX11_waitOf_34 : decode cX11_waitOf 34 = .ok (.isub, 1) := by decide +kernel
theorem dX11_waitOf_35 : decode cX11_waitOf 35 = .ok (.istore_n 2, 1) := by decide +kernel
theorem dX11_waitOf_36 : decode cX11_waitOf 36 = .ok (.iload_n 2, 1) := by decide +kernel
theorem dX11_waitOf_37 : decode cX11_waitOf 37 = .ok (.ifCond .lt 174, 3) := by decide +kernel
theorem dX11_waitOf_40 : decode cX11_waitOf 40 = .ok (.aload_n 0, 1) := by decide +kernel
theorem dX11_waitOf_41 : decode cX11_waitOf 41 = .ok (.getfield 44, 3) := by decide +kernel
theorem dX11_waitOf_44 : decode cX11_waitOf 44 = .ok (.iconst 2, 1) := by decide +kernel
theorem dX11_waitOf_45 : decode cX11_waitOf 45 = .ok (.iload_n 2, 1) := by decide +kernel
theorem dX11_waitOf_46 : decode cX11_waitOf 46 = .ok (.imul, 1) := by decide +kernel
theorem dX11_waitOf_47 : decode cX11_waitOf 47 = .ok (.iaload, 1) := by decide +kernel
theorem dX11_waitOf_48 : decode cX11_waitOf 48 = .ok (.istore_n 3, 1) := by decide +kernel
theorem dX11_waitOf_49 : decode cX11_waitOf 49 = .ok (.aload_n 0, 1) := by decide +kernel
theorem dX11_waitOf_50 : decode cX11_waitOf 50 = .ok (.getfield 44, 3) := by decide +kernel
theorem dX11_waitOf_53 : decode cX11_waitOf 53 = .ok (.iconst 2, 1) := by decide +kernel
theorem dX11_waitOf_54 : decode cX11_waitOf 54 = .ok (.iload_n 2, 1) := by decide +kernel
theorem dX11_waitOf_55 : decode cX11_waitOf 55 = .ok (.imul, 1) := by decide +kernel
theorem dX11_waitOf_56 : decode cX11_waitOf 56 = .ok (.iconst 1, 1) := by decide +kernel
theorem dX11_waitOf_57 : decode cX11_waitOf 57 = .ok (.iadd, 1) := by decide +kernel
theorem dX11_waitOf_58 : decode cX11_waitOf 58 = .ok (.iaload, 1) := by decide +kernel
theorem dX11_waitOf_59 : decode cX11_waitOf 59 = .ok (.istore 4, 2) := by decide +kernel
theorem dX11_waitOf_61 : decode cX11_waitOf 61 = .ok (.aload_n 0, 1) := by decide +kernel
theorem dX11_waitOf_62 : decode cX11_waitOf 62 = .ok (.aload_n 0, 1) := by decide +kernel
theorem dX11_waitOf_63 : decode cX11_waitOf 63 = .ok (.getfield 35, 3) := by decide +kernel
theorem dX11_waitOf_66 : decode cX11_waitOf 66 = .ok (.iload_n 3, 1) := by decide +kernel
theorem dX11_waitOf_67 : decode cX11_waitOf 67 = .ok (.iaload, 1) := by decide +kernel
theorem dX11_waitOf_68 : decode cX11_waitOf 68 = .ok (.aload_n 0, 1) := by decide +kernel
theorem dX11_waitOf_69 : decode cX11_waitOf 69 = .ok (.getfield 35, 3) := by decide +kernel
theorem dX11_waitOf_72 : decode cX11_waitOf 72 = .ok (.iload 4, 2) := by decide +kernel
theorem dX11_waitOf_74 : decode cX11_waitOf 74 = .ok (.iaload, 1) := by decide +kernel
theorem dX11_waitOf_75 : decode cX11_waitOf 75 = .ok (.invokevirtual 96, 3) := by decide +kernel
theorem dX11_waitOf_78 : decode cX11_waitOf 78 = .ok (.istore 5, 2) := by decide +kernel
theorem dX11_waitOf_80 : decode cX11_waitOf 80 = .ok (.aload_n 0, 1) := by decide +kernel
theorem dX11_waitOf_81 : decode cX11_waitOf 81 = .ok (.aload_n 0, 1) := by decide +kernel
theorem dX11_waitOf_82 : decode cX11_waitOf 82 = .ok (.getfield 35, 3) := by decide +kernel
theorem dX11_waitOf_85 : decode cX11_waitOf 85 = .ok (.iload 4, 2) := by decide +kernel
theorem dX11_waitOf_87 : decode cX11_waitOf 87 = .ok (.iaload, 1) := by decide +kernel
theorem dX11_waitOf_88 : decode cX11_waitOf 88 = .ok (.aload_n 0, 1) := by decide +kernel
theorem dX11_waitOf_89 : decode cX11_waitOf 89 = .ok (.getfield 35, 3) := by decide +kernel
theorem dX11_waitOf_92 : decode cX11_waitOf 92 = .ok (.iload_n 3, 1) := by decide +kernel
theorem dX11_waitOf_93 : decode cX11_waitOf 93 = .ok (.iaload, 1) := by decide +kernel
theorem dX11_waitOf_94 : decode cX11_waitOf 94 = .ok (.invokevirtual 96, 3) := by decide +kernel
theorem dX11_waitOf_97 : decode cX11_waitOf 97 = .ok (.istore 6, 2) := by decide +kernel
theorem dX11_waitOf_99 : decode cX11_waitOf 99 = .ok (.iload 5, 2) := by decide +kernel
theorem dX11_waitOf_101 : decode cX11_waitOf 101 = .ok (.ifCond .eq 8, 3) := by decide +kernel
theorem dX11_waitOf_104 : decode cX11_waitOf 104 = .ok (.iload 6, 2) := by decide +kernel
theorem dX11_waitOf_106 : decode cX11_waitOf 106 = .ok (.ifCond .ne 6, 3) := by decide +kernel
theorem dX11_waitOf_109 : decode cX11_waitOf 109 = .ok (.bipush (-4), 2) := by decide +kernel
theorem dX11_waitOf_111 : decode cX11_waitOf 111 = .ok (.ireturn, 1) := by decide +kernel
theorem dX11_waitOf_112 : decode cX11_waitOf 112 = .ok (.iconst 0, 1) := by decide +kernel
theorem dX11_waitOf_113 : decode cX11_waitOf 113 = .ok (.istore 7, 2) := by decide +kernel
theorem dX11_waitOf_115 : decode cX11_waitOf 115 = .ok (.iload 7, 2) := by decide +kernel
theorem dX11_waitOf_117 : decode cX11_waitOf 117 = .ok (.iload_n 1, 1) := by decide +kernel
theorem dX11_waitOf_118 : decode cX11_waitOf 118 = .ok (.if_icmp .ge 87, 3) := by decide +kernel
theorem dX11_waitOf_121 : decode cX11_waitOf 121 = .ok (.iload 7, 2) := by decide +kernel
theorem dX11_waitOf_123 : decode cX11_waitOf 123 = .ok (.iload_n 3, 1) := by decide +kernel
theorem dX11_waitOf_124 : decode cX11_waitOf 124 = .ok (.if_icmp .eq 75, 3) := by decide +kernel
theorem dX11_waitOf_127 : decode cX11_waitOf 127 = .ok (.aload_n 0, 1) := by decide +kernel
theorem dX11_waitOf_128 : decode cX11_waitOf 128 = .ok (.getfield 47, 3) := by decide +kernel
theorem dX11_waitOf_131 : decode cX11_waitOf 131 = .ok (.bipush 6, 2) := by decide +kernel
theorem dX11_waitOf_133 : decode cX11_waitOf 133 = .ok (.iload 4, 2) := by decide +kernel
theorem dX11_waitOf_135 : decode cX11_waitOf 135 = .ok (.imul, 1) := by decide +kernel
theorem dX11_waitOf_136 : decode cX11_waitOf 136 = .ok (.iload 7, 2) := by decide +kernel
theorem dX11_waitOf_138 : decode cX11_waitOf 138 = .ok (.iadd, 1) := by decide +kernel
theorem dX11_waitOf_139 : decode cX11_waitOf 139 = .ok (.iaload, 1) := by decide +kernel
theorem dX11_waitOf_140 : decode cX11_waitOf 140 = .ok (.ifCond .lt 59, 3) := by decide +kernel
theorem dX11_waitOf_143 : decode cX11_waitOf 143 = .ok (.aload_n 0, 1) := by decide +kernel
theorem dX11_waitOf_144 : decode cX11_waitOf 144 = .ok (.getfield 47, 3) := by decide +kernel
theorem dX11_waitOf_147 : decode cX11_waitOf 147 = .ok (.bipush 6, 2) := by decide +kernel
theorem dX11_waitOf_149 : decode cX11_waitOf 149 = .ok (.iload_n 3, 1) := by decide +kernel
theorem dX11_waitOf_150 : decode cX11_waitOf 150 = .ok (.imul, 1) := by decide +kernel
theorem dX11_waitOf_151 : decode cX11_waitOf 151 = .ok (.iload 7, 2) := by decide +kernel
theorem dX11_waitOf_153 : decode cX11_waitOf 153 = .ok (.iadd, 1) := by decide +kernel
theorem dX11_waitOf_154 : decode cX11_waitOf 154 = .ok (.iload 5, 2) := by decide +kernel
theorem dX11_waitOf_156 : decode cX11_waitOf 156 = .ok (.aload_n 0, 1) := by decide +kernel
theorem dX11_waitOf_157 : decode cX11_waitOf 157 = .ok (.getfield 47, 3) := by decide +kernel
theorem dX11_waitOf_160 : decode cX11_waitOf 160 = .ok (.bipush 6, 2) := by decide +kernel
theorem dX11_waitOf_162 : decode cX11_waitOf 162 = .ok (.iload 4, 2) := by decide +kernel
theorem dX11_waitOf_164 : decode cX11_waitOf 164 = .ok (.imul, 1) := by decide +kernel
theorem dX11_waitOf_165 : decode cX11_waitOf 165 = .ok (.iload 7, 2) := by decide +kernel
theorem dX11_waitOf_167 : decode cX11_waitOf 167 = .ok (.iadd, 1) := by decide +kernel
theorem dX11_waitOf_168 : decode cX11_waitOf 168 = .ok (.iaload, 1) := by decide +kernel
theorem dX11_waitOf_169 : decode cX11_waitOf 169 = .ok (.iadd, 1) := by decide +kernel
theorem dX11_waitOf_170 : decode cX11_waitOf 170 = .ok (.iastore, 1) := by decide +kernel
theorem dX11_waitOf_171 : decode cX11_waitOf 171 = .ok (.aload_n 0, 1) := by decide +kernel
theorem dX11_waitOf_172 : decode cX11_waitOf 172 = .ok (.getfield 47, 3) := by decide +kernel
theorem dX11_waitOf_175 : decode cX11_waitOf 175 = .ok (.bipush 6, 2) := by decide +kernel
theorem dX11_waitOf_177 : decode cX11_waitOf 177 = .ok (.iload 7, 2) := by decide +kernel
theorem dX11_waitOf_179 : decode cX11_waitOf 179 = .ok (.imul, 1) := by decide +kernel
theorem dX11_waitOf_180 : decode cX11_waitOf 180 = .ok (.iload_n 3, 1) := by decide +kernel
theorem dX11_waitOf_181 : decode cX11_waitOf 181 = .ok (.iadd, 1) := by decide +kernel
theorem dX11_waitOf_182 : decode cX11_waitOf 182 = .ok (.aload_n 0, 1) := by decide +kernel
theorem dX11_waitOf_183 : decode cX11_waitOf 183 = .ok (.getfield 47, 3) := by decide +kernel
theorem dX11_waitOf_186 : decode cX11_waitOf 186 = .ok (.bipush 6, 2) := by decide +kernel
theorem dX11_waitOf_188 : decode cX11_waitOf 188 = .ok (.iload 7, 2) := by decide +kernel
theorem dX11_waitOf_190 : decode cX11_waitOf 190 = .ok (.imul, 1) := by decide +kernel
theorem dX11_waitOf_191 : decode cX11_waitOf 191 = .ok (.iload 4, 2) := by decide +kernel
theorem dX11_waitOf_193 : decode cX11_waitOf 193 = .ok (.iadd, 1) := by decide +kernel
theorem dX11_waitOf_194 : decode cX11_waitOf 194 = .ok (.iaload, 1) := by decide +kernel
theorem dX11_waitOf_195 : decode cX11_waitOf 195 = .ok (.iload 6, 2) := by decide +kernel
theorem dX11_waitOf_197 : decode cX11_waitOf 197 = .ok (.iadd, 1) := by decide +kernel
theorem dX11_waitOf_198 : decode cX11_waitOf 198 = .ok (.iastore, 1) := by decide +kernel
theorem dX11_waitOf_199 : decode cX11_waitOf 199 = .ok (.iinc 7 1, 3) := by decide +kernel
theorem dX11_waitOf_202 : decode cX11_waitOf 202 = .ok (.goto (-87), 3) := by decide +kernel
theorem dX11_waitOf_205 : decode cX11_waitOf 205 = .ok (.iinc 2 (-1), 3) := by decide +kernel
theorem dX11_waitOf_208 : decode cX11_waitOf 208 = .ok (.goto (-172), 3) := by decide +kernel
theorem dX11_waitOf_211 : decode cX11_waitOf 211 = .ok (.iconst 0, 1) := by decide +kernel
theorem dX11_waitOf_212 : decode cX11_waitOf 212 = .ok (.istore_n 2, 1) := by decide +kernel
theorem dX11_waitOf_213 : decode cX11_waitOf 213 = .ok (.iconst 0, 1) := by decide +kernel
theorem dX11_waitOf_214 : decode cX11_waitOf 214 = .ok (.istore_n 3, 1) := by decide +kernel
theorem dX11_waitOf_215 : decode cX11_waitOf 215 = .ok (.iload_n 3, 1) := by decide +kernel
theorem dX11_waitOf_216 : decode cX11_waitOf 216 = .ok (.iload_n 1, 1) := by decide +kernel
theorem dX11_waitOf_217 : decode cX11_waitOf 217 = .ok (.if_icmp .ge 57, 3) := by decide +kernel
theorem dX11_waitOf_220 : decode cX11_waitOf 220 = .ok (.iconst 0, 1) := by decide +kernel
theorem dX11_waitOf_221 : decode cX11_waitOf 221 = .ok (.istore 4, 2) := by decide +kernel
theorem dX11_waitOf_223 : decode cX11_waitOf 223 = .ok (.iload 4, 2) := by decide +kernel
theorem dX11_waitOf_225 : decode cX11_waitOf 225 = .ok (.iload_n 1, 1) := by decide +kernel
theorem dX11_waitOf_226 : decode cX11_waitOf 226 = .ok (.if_icmp .ge 42, 3) := by decide +kernel
theorem dX11_waitOf_229 : decode cX11_waitOf 229 = .ok (.aload_n 0, 1) := by decide +kernel
theorem dX11_waitOf_230 : decode cX11_waitOf 230 = .ok (.getfield 47, 3) := by decide +kernel
theorem dX11_waitOf_233 : decode cX11_waitOf 233 = .ok (.bipush 6, 2) := by decide +kernel
theorem dX11_waitOf_235 : decode cX11_waitOf 235 = .ok (.iload_n 3, 1) := by decide +kernel
theorem dX11_waitOf_236 : decode cX11_waitOf 236 = .ok (.imul, 1) := by decide +kernel
theorem dX11_waitOf_237 : decode cX11_waitOf 237 = .ok (.iload 4, 2) := by decide +kernel
theorem dX11_waitOf_239 : decode cX11_waitOf 239 = .ok (.iadd, 1) := by decide +kernel
theorem dX11_waitOf_240 : decode cX11_waitOf 240 = .ok (.iaload, 1) := by decide +kernel
theorem dX11_waitOf_241 : decode cX11_waitOf 241 = .ok (.iload_n 2, 1) := by decide +kernel
theorem dX11_waitOf_242 : decode cX11_waitOf 242 = .ok (.if_icmp .le 18, 3) := by decide +kernel
theorem dX11_waitOf_245 : decode cX11_waitOf 245 = .ok (.aload_n 0, 1) := by decide +kernel
theorem dX11_waitOf_246 : decode cX11_waitOf 246 = .ok (.getfield 47, 3) := by decide +kernel
theorem dX11_waitOf_249 : decode cX11_waitOf 249 = .ok (.bipush 6, 2) := by decide +kernel
theorem dX11_waitOf_251 : decode cX11_waitOf 251 = .ok (.iload_n 3, 1) := by decide +kernel
theorem dX11_waitOf_252 : decode cX11_waitOf 252 = .ok (.imul, 1) := by decide +kernel
theorem dX11_waitOf_253 : decode cX11_waitOf 253 = .ok (.iload 4, 2) := by decide +kernel
theorem dX11_waitOf_255 : decode cX11_waitOf 255 = .ok (.iadd, 1) := by decide +kernel
theorem dX11_waitOf_256 : decode cX11_waitOf 256 = .ok (.iaload, 1) := by decide +kernel
theorem dX11_waitOf_257 : decode cX11_waitOf 257 = .ok (.goto 4, 3) := by decide +kernel
theorem dX11_waitOf_260 : decode cX11_waitOf 260 = .ok (.iload_n 2, 1) := by decide +kernel
theorem dX11_waitOf_261 : decode cX11_waitOf 261 = .ok (.istore_n 2, 1) := by decide +kernel
theorem dX11_waitOf_262 : decode cX11_waitOf 262 = .ok (.iinc 4 1, 3) := by decide +kernel
theorem dX11_waitOf_265 : decode cX11_waitOf 265 = .ok (.goto (-42), 3) := by decide +kernel
theorem dX11_waitOf_268 : decode cX11_waitOf 268 = .ok (.iinc 3 1, 3) := by decide +kernel
theorem dX11_waitOf_271 : decode cX11_waitOf 271 = .ok (.goto (-56), 3) := by decide +kernel
theorem dX11_waitOf_274 : decode cX11_waitOf 274 = .ok (.iload_n 2, 1) := by decide +kernel
theorem dX11_waitOf_275 : decode cX11_waitOf 275 = .ok (.ireturn, 1) := by decide +kernel
theorem dX11_net_0 : decode cX11_net 0 = .ok (.iconst 0, 1) := by decide +kernel
theorem dX11_net_1 : decode cX11_net 1 = .ok (.istore_n 1, 1) := by decide +kernel
theorem dX11_net_2 : decode cX11_net 2 = .ok (.iconst 0, 1) := by decide +kernel
theorem dX11_net_3 : decode cX11_net 3 = .ok (.istore_n 2, 1) := by decide +kernel
theorem dX11_net_4 : decode cX11_net 4 = .ok (.iconst 0, 1) := by decide +kernel
theorem dX11_net_5 : decode cX11_net 5 = .ok (.istore_n 3, 1) := by decide +kernel
theorem dX11_net_6 : decode cX11_net 6 = .ok (.iload_n 3, 1) := by decide +kernel
theorem dX11_net_7 : decode cX11_net 7 = .ok (.aload_n 0, 1) := by decide +kernel
theorem dX11_net_8 : decode cX11_net 8 = .ok (.invokevirtual 82, 3) := by decide +kernel
theorem dX11_net_11 : decode cX11_net 11 = .ok (.if_icmp .ge 25, 3) := by decide +kernel
theorem dX11_net_14 : decode cX11_net 14 = .ok (.iload_n 2, 1) := by decide +kernel
theorem dX11_net_15 : decode cX11_net 15 = .ok (.aload_n 0, 1) := by decide +kernel
theorem dX11_net_16 : decode cX11_net 16 = .ok (.iload_n 3, 1) := by decide +kernel
theorem dX11_net_17 : decode cX11_net 17 = .ok (.invokevirtual 137, 3) := by decide +kernel
theorem dX11_net_20 : decode cX11_net 20 = .ok (.ifCond .eq 7, 3) := by decide +kernel
theorem dX11_net_23 : decode cX11_net 23 = .ok (.iconst 1, 1) := by decide +kernel
theorem dX11_net_24 : decode cX11_net 24 = .ok (.goto 4, 3) := by decide +kernel
theorem dX11_net_27 : decode cX11_net 27 = .ok (.iconst 0, 1) := by decide +kernel
theorem dX11_net_28 : decode cX11_net 28 = .ok (.iadd, 1) := by decide +kernel
theorem dX11_net_29 : decode cX11_net 29 = .ok (.istore_n 2, 1) := by decide +kernel
theorem dX11_net_30 : decode cX11_net 30 = .ok (.iinc 3 1, 3) := by decide +kernel
theorem dX11_net_33 : decode cX11_net 33 = .ok (.goto (-27), 3) := by decide +kernel
theorem dX11_net_36 : decode cX11_net 36 = .ok (.aload_n 0, 1) := by decide +kernel
theorem dX11_net_37 : decode cX11_net 37 = .ok (.invokevirtual 82, 3) := by decide +kernel
theorem dX11_net_40 : decode cX11_net 40 = .ok (.iload_n 2, 1) := by decide +kernel
theorem dX11_net_41 : decode cX11_net 41 = .ok (.isub, 1) := by decide +kernel
theorem dX11_net_42 : decode cX11_net 42 = .ok (.i2l, 1) := by decide +kernel
theorem dX11_net_43 : decode cX11_net 43 = .ok (.ldc2_w 194, 3) := by decide +kernel
theorem dX11_net_46 : decode cX11_net 46 = .ok (.ldc2_w 196, 3) := by decide +kernel
theorem dX11_net_49 : decode cX11_net 49 = .ok (.invokestatic 72, 3) := by decide +kernel
theorem dX11_net_52 : decode cX11_net 52 = .ok (.ifCond .ne 6, 3) := by decide +kernel
theorem dX11_net_55 : decode cX11_net 55 = .ok (.bipush (-2), 2) := by decide +kernel
theorem dX11_net_57 : decode cX11_net 57 = .ok (.ireturn, 1) := by decide +kernel
theorem dX11_net_58 : decode cX11_net 58 = .ok (.iconst 0, 1) := by decide +kernel
theorem dX11_net_59 : decode cX11_net 59 = .ok (.istore_n 3, 1) := by decide +kernel
theorem dX11_net_60 : decode cX11_net 60 = .ok (.iload_n 3, 1) := by decide +kernel
theorem dX11_net_61 : decode cX11_net 61 = .ok (.aload_n 0, 1) := by decide +kernel
theorem dX11_net_62 : decode cX11_net 62 = .ok (.invokevirtual 82, 3) := by decide +kernel
theorem dX11_net_65 : decode cX11_net 65 = .ok (.if_icmp .ge 27, 3) := by decide +kernel
theorem dX11_net_68 : decode cX11_net 68 = .ok (.aload_n 0, 1) := by decide +kernel
theorem dX11_net_69 : decode cX11_net 69 = .ok (.iload_n 3, 1) := by decide +kernel
theorem dX11_net_70 : decode cX11_net 70 = .ok (.invokevirtual 137, 3) := by decide +kernel
theorem dX11_net_73 : decode cX11_net 73 = .ok (.ifCond .ne 13, 3) := by decide +kernel
theorem dX11_net_76 : decode cX11_net 76 = .ok (.aload_n 0, 1) := by decide +kernel
theorem dX11_net_77 : decode cX11_net 77 = .ok (.getfield 35, 3) := by decide +kernel
theorem dX11_net_80 : decode cX11_net 80 = .ok (.iload_n 1, 1) := by decide +kernel
theorem dX11_net_81 : decode cX11_net 81 = .ok (.iload_n 3, 1) := by decide +kernel
theorem dX11_net_82 : decode cX11_net 82 = .ok (.iastore, 1) := by decide +kernel
theorem dX11_net_83 : decode cX11_net 83 = .ok (.iinc 1 1, 3) := by decide +kernel
theorem dX11_net_86 : decode cX11_net 86 = .ok (.iinc 3 1, 3) := by decide +kernel
theorem dX11_net_89 : decode cX11_net 89 = .ok (.goto (-29), 3) := by decide +kernel
theorem dX11_net_92 : decode cX11_net 92 = .ok (.iconst 1, 1) := by decide +kernel
theorem dX11_net_93 : decode cX11_net 93 = .ok (.istore_n 3, 1) := by decide +kernel
theorem dX11_net_94 : decode cX11_net 94 = .ok (.iconst 0, 1) := by decide +kernel
theorem dX11_net_95 : decode cX11_net 95 = .ok (.istore 4, 2) := by decide +kernel
theorem dX11_net_97 : decode cX11_net 97 = .ok (.iload 4, 2) := by decide +kernel
theorem dX11_net_99 : decode cX11_net 99 = .ok (.iload_n 1, 1) := by decide +kernel
theorem dX11_net_100 : decode cX11_net 100 = .ok (.iconst 2, 1) := by decide +kernel
theorem dX11_net_101 : decode cX11_net 101 = .ok (.isub, 1) := by decide +kernel
theorem dX11_net_102 : decode cX11_net 102 = .ok (.if_icmp .ge 13, 3) := by decide +kernel
theorem dX11_net_105 : decode cX11_net 105 = .ok (.iload_n 3, 1) := by decide +kernel
theorem dX11_net_106 : decode cX11_net 106 = .ok (.iload_n 1, 1) := by decide +kernel
theorem dX11_net_107 : decode cX11_net 107 = .ok (.imul, 1) := by decide +kernel
theorem dX11_net_108 : decode cX11_net 108 = .ok (.istore_n 3, 1) := by decide +kernel
theorem dX11_net_109 : decode cX11_net 109 = .ok (.iinc 4 1, 3) := by decide +kernel
theorem dX11_net_112 : decode cX11_net 112 = .ok (.goto (-15), 3) := by decide +kernel
theorem dX11_net_115 : decode cX11_net 115 = .ok (.bipush (-4), 2) := by decide +kernel
theorem dX11_net_117 : decode cX11_net 117 = .ok (.istore 4, 2) := by decide +kernel
theorem dX11_net_119 : decode cX11_net 119 = .ok (.iconst 0, 1) := by decide +kernel
theorem dX11_net_120 : decode cX11_net 120 = .ok (.istore 5, 2) := by decide +kernel
theorem dX11_net_122 : decode cX11_net 122 = .ok (.iload 5, 2) := by decide +kernel
theorem dX11_net_124 : decode cX11_net 124 = .ok (.iload_n 3, 1) := by decide +kernel
theorem dX11_net_125 : decode cX11_net 125 = .ok (.if_icmp .ge 97, 3) := by decide +kernel
theorem dX11_net_128 : decode cX11_net 128 = .ok (.iload 5, 2) := by decide +kernel
theorem dX11_net_130 : decode cX11_net 130 = .ok (.istore 6, 2) := by decide +kernel
theorem dX11_net_132 : decode cX11_net 132 = .ok (.iconst 0, 1) := by decide +kernel
theorem dX11_net_133 : decode cX11_net 133 = .ok (.istore 7, 2) := by decide +kernel
theorem dX11_net_135 : decode cX11_net 135 = .ok (.iload 7, 2) := by decide +kernel
theorem dX11_net_137 : decode cX11_net 137 = .ok (.iload_n 1, 1) := by decide +kernel
theorem dX11_net_138 : decode cX11_net 138 = .ok (.iconst 2, 1) := by decide +kernel
theorem dX11_net_139 : decode cX11_net 139 = .ok (.isub, 1) := by decide +kernel
theorem dX11_net_140 : decode cX11_net 140 = .ok (.if_icmp .ge 26, 3) := by decide +kernel
theorem dX11_net_143 : decode cX11_net 143 = .ok (.aload_n 0, 1) := by decide +kernel
theorem dX11_net_144 : decode cX11_net 144 = .ok (.getfield 38, 3) := by decide +kernel
theorem dX11_net_147 : decode cX11_net 147 = .ok (.iload 7, 2) := by decide +kernel
theorem dX11_net_149 : decode cX11_net 149 = .ok (.iload 6, 2) := by decide +kernel
theorem dX11_net_151 : decode cX11_net 151 = .ok (.iload_n 1, 1) := by decide +kernel
theorem dX11_net_152 : decode cX11_net 152 = .ok (.irem, 1) := by decide +kernel
theorem dX11_net_153 : decode cX11_net 153 = .ok (.iastore, 1) := by decide +kernel
theorem dX11_net_154 : decode cX11_net 154 = .ok (.iload 6, 2) := by decide +kernel
theorem dX11_net_156 : decode cX11_net 156 = .ok (.iload_n 1, 1) := by decide +kernel
theorem dX11_net_157 : decode cX11_net 157 = .ok (.idiv, 1) := by decide +kernel
theorem dX11_net_158 : decode cX11_net 158 = .ok (.istore 6, 2) := by decide +kernel
theorem dX11_net_160 : decode cX11_net 160 = .ok (.iinc 7 1, 3) := by decide +kernel
theorem dX11_net_163 : decode cX11_net 163 = .ok (.goto (-28), 3) := by decide +kernel
theorem dX11_net_166 : decode cX11_net 166 = .ok (.aload_n 0, 1) := by decide +kernel
theorem dX11_net_167 : decode cX11_net 167 = .ok (.iload_n 1, 1) := by decide +kernel
theorem dX11_net_168 : decode cX11_net 168 = .ok (.invokevirtual 198, 3) := by decide +kernel
theorem dX11_net_171 : decode cX11_net 171 = .ok (.istore 7, 2) := by decide +kernel
theorem dX11_net_173 : decode cX11_net 173 = .ok (.iload 7, 2) := by decide +kernel
theorem dX11_net_175 : decode cX11_net 175 = .ok (.ifCond .eq 11, 3) := by decide +kernel
theorem dX11_net_178 : decode cX11_net 178 = .ok (.aload_n 0, 1) := by decide +kernel
theorem dX11_net_179 : decode cX11_net 179 = .ok (.iload_n 1, 1) := by decide +kernel
theorem dX11_net_180 : decode cX11_net 180 = .ok (.invokevirtual 201, 3) := by decide +kernel
theorem dX11_net_183 : decode cX11_net 183 = .ok (.goto 5, 3) := by decide +kernel
theorem dX11_net_186 : decode cX11_net 186 = .ok (.bipush (-4), 2) := by decide +kernel
theorem dX11_net_188 : decode cX11_net 188 = .ok (.istore 8, 2) := by decide +kernel
theorem dX11_net_190 : decode cX11_net 190 = .ok (.iload 8, 2) := by decide +kernel
theorem dX11_net_192 : decode cX11_net 192 = .ok (.ifCond .lt 20, 3) := by decide +kernel
theorem dX11_net_195 : decode cX11_net 195 = .ok (.iload 4, 2) := by decide +kernel
theorem dX11_net_197 : decode cX11_net 197 = .ok (.ifCond .lt 10, 3) := by decide +kernel
theorem dX11_net_200 : decode cX11_net 200 = .ok (.iload 8, 2) := by decide +kernel
theorem dX11_net_202 : decode cX11_net 202 = .ok (.iload 4, 2) := by decide +kernel
theorem dX11_net_204 : decode cX11_net 204 = .ok (.if_icmp .ge 8, 3) := by decide +kernel
theorem dX11_net_207 : decode cX11_net 207 = .ok (.iload 8, 2) := by decide +kernel
theorem dX11_net_209 : decode cX11_net 209 = .ok (.goto 5, 3) := by decide +kernel
theorem dX11_net_212 : decode cX11_net 212 = .ok (.iload 4, 2) := by decide +kernel
theorem dX11_net_214 : decode cX11_net 214 = .ok (.istore 4, 2) := by decide +kernel
theorem dX11_net_216 : decode cX11_net 216 = .ok (.iinc 5 1, 3) := by decide +kernel
theorem dX11_net_219 : decode cX11_net 219 = .ok (.goto (-97), 3) := by decide +kernel
theorem dX11_net_222 : decode cX11_net 222 = .ok (.iload 4, 2) := by decide +kernel
theorem dX11_net_224 : decode cX11_net 224 = .ok (.ireturn, 1) := by decide +kernel
theorem dX11_image_0 : decode cX11_image 0 = .ok (.iload_n 1, 1) := by decide +kernel
theorem dX11_image_1 : decode cX11_image 1 = .ok (.i2l, 1) := by decide +kernel
theorem dX11_image_2 : decode cX11_image 2 = .ok (.lconst 0, 1) := by decide +kernel
theorem dX11_image_3 : decode cX11_image 3 = .ok (.lconst 1, 1) := by decide +kernel
theorem dX11_image_4 : decode cX11_image 4 = .ok (.invokestatic 72, 3) := by decide +kernel
theorem dX11_image_7 : decode cX11_image 7 = .ok (.ifCond .ne 5, 3) := by decide +kernel
theorem dX11_image_10 : decode cX11_image 10 = .ok (.iconst (-1), 1) := by decide +kernel
theorem dX11_image_11 : decode cX11_image 11 = .ok (.ireturn, 1) := by decide +kernel
theorem dX11_image_12 : decode cX11_image 12 = .ok (.iconst 0, 1) := by decide +kernel
theorem dX11_image_13 : decode cX11_image 13 = .ok (.istore_n 2, 1) := by decide +kernel
theorem dX11_image_14 : decode cX11_image 14 = .ok (.iload_n 2, 1) := by decide +kernel
theorem dX11_image_15 : decode cX11_image 15 = .ok (.sipush 648, 3) := by decide +kernel
theorem dX11_image_18 : decode cX11_image 18 = .ok (.if_icmp .ge 27, 3) := by decide +kernel
theorem dX11_image_21 : decode cX11_image 21 = .ok (.aload_n 0, 1) := by decide +kernel
theorem dX11_image_22 : decode cX11_image 22 = .ok (.getfield 50, 3) := by decide +kernel
theorem dX11_image_25 : decode cX11_image 25 = .ok (.sipush 648, 3) := by decide +kernel
theorem dX11_image_28 : decode cX11_image 28 = .ok (.iload_n 1, 1) := by decide +kernel
theorem dX11_image_29 : decode cX11_image 29 = .ok (.imul, 1) := by decide +kernel
theorem dX11_image_30 : decode cX11_image 30 = .ok (.iload_n 2, 1) := by decide +kernel
theorem dX11_image_31 : decode cX11_image 31 = .ok (.iadd, 1) := by decide +kernel
theorem dX11_image_32 : decode cX11_image 32 = .ok (.aload_n 0, 1) := by decide +kernel
theorem dX11_image_33 : decode cX11_image 33 = .ok (.getfield 7, 3) := by decide +kernel
theorem dX11_image_36 : decode cX11_image 36 = .ok (.iload_n 2, 1) := by decide +kernel
theorem dX11_image_37 : decode cX11_image 37 = .ok (.iaload, 1) := by decide +kernel
theorem dX11_image_38 : decode cX11_image 38 = .ok (.iastore, 1) := by decide +kernel
theorem dX11_image_39 : decode cX11_image 39 = .ok (.iinc 2 1, 3) := by decide +kernel
theorem dX11_image_42 : decode cX11_image 42 = .ok (.goto (-28), 3) := by decide +kernel
theorem dX11_image_45 : decode cX11_image 45 = .ok (.iconst 0, 1) := by decide +kernel
theorem dX11_image_46 : decode cX11_image 46 = .ok (.istore_n 2, 1) := by decide +kernel
theorem dX11_image_47 : decode cX11_image 47 = .ok (.iload_n 2, 1) := by decide +kernel
theorem dX11_image_48 : decode cX11_image 48 = .ok (.bipush 8, 2) := by decide +kernel
theorem dX11_image_50 : decode cX11_image 50 = .ok (.if_icmp .ge 26, 3) := by decide +kernel
theorem dX11_image_53 : decode cX11_image 53 = .ok (.aload_n 0, 1) := by decide +kernel
theorem dX11_image_54 : decode cX11_image 54 = .ok (.getfield 53, 3) := by decide +kernel
theorem dX11_image_57 : decode cX11_image 57 = .ok (.bipush 8, 2) := by decide +kernel
theorem dX11_image_59 : decode cX11_image 59 = .ok (.iload_n 1, 1) := by decide +kernel
theorem dX11_image_60 : decode cX11_image 60 = .ok (.imul, 1) := by decide +kernel
theorem dX11_image_61 : decode cX11_image 61 = .ok (.iload_n 2, 1) := by decide +kernel
theorem dX11_image_62 : decode cX11_image 62 = .ok (.iadd, 1) := by decide +kernel
theorem dX11_image_63 : decode cX11_image 63 = .ok (.aload_n 0, 1) := by decide +kernel
theorem dX11_image_64 : decode cX11_image 64 = .ok (.getfield 13, 3) := by decide +kernel
theorem dX11_image_67 : decode cX11_image 67 = .ok (.iload_n 2, 1) := by decide +kernel
theorem dX11_image_68 : decode cX11_image 68 = .ok (.laload, 1) := by decide +kernel
theorem dX11_image_69 : decode cX11_image 69 = .ok (.lastore, 1) := by decide +kernel
theorem dX11_image_70 : decode cX11_image 70 = .ok (.iinc 2 1, 3) := by decide +kernel
theorem dX11_image_73 : decode cX11_image 73 = .ok (.goto (-26), 3) := by decide +kernel
theorem dX11_image_76 : decode cX11_image 76 = .ok (.aload_n 0, 1) := by decide +kernel
theorem dX11_image_77 : decode cX11_image 77 = .ok (.getfield 56, 3) := by decide +kernel
theorem dX11_image_80 : decode cX11_image 80 = .ok (.iload_n 1, 1) := by decide +kernel
theorem dX11_image_81 : decode cX11_image 81 = .ok (.iconst 1, 1) := by decide +kernel
theorem dX11_image_82 : decode cX11_image 82 = .ok (.bastore, 1) := by decide +kernel
theorem dX11_image_83 : decode cX11_image 83 = .ok (.iconst 1, 1) := by decide +kernel
theorem dX11_image_84 : decode cX11_image 84 = .ok (.ireturn, 1) := by decide +kernel
theorem dX11_restore_0 : decode cX11_restore 0 = .ok (.iload_n 1, 1) := by decide +kernel
theorem dX11_restore_1 : decode cX11_restore 1 = .ok (.i2l, 1) := by decide +kernel
theorem dX11_restore_2 : decode cX11_restore 2 = .ok (.lconst 0, 1) := by decide +kernel
theorem dX11_restore_3 : decode cX11_restore 3 = .ok (.lconst 1, 1) := by decide +kernel
theorem dX11_restore_4 : decode cX11_restore 4 = .ok (.invokestatic 72, 3) := by decide +kernel
theorem dX11_restore_7 : decode cX11_restore 7 = .ok (.ifCond .ne 5, 3) := by decide +kernel
theorem dX11_restore_10 : decode cX11_restore 10 = .ok (.iconst (-1), 1) := by decide +kernel
theorem dX11_restore_11 : decode cX11_restore 11 = .ok (.ireturn, 1) := by decide +kernel
theorem dX11_restore_12 : decode cX11_restore 12 = .ok (.aload_n 0, 1) := by decide +kernel
theorem dX11_restore_13 : decode cX11_restore 13 = .ok (.getfield 56, 3) := by decide +kernel
theorem dX11_restore_16 : decode cX11_restore 16 = .ok (.iload_n 1, 1) := by decide +kernel
theorem dX11_restore_17 : decode cX11_restore 17 = .ok (.baload, 1) := by decide +kernel
theorem dX11_restore_18 : decode cX11_restore 18 = .ok (.ifCond .ne 6, 3) := by decide +kernel
theorem dX11_restore_21 : decode cX11_restore 21 = .ok (.bipush (-4), 2) := by decide +kernel
theorem dX11_restore_23 : decode cX11_restore 23 = .ok (.ireturn, 1) := by decide +kernel
theorem dX11_restore_24 : decode cX11_restore 24 = .ok (.iconst 0, 1) := by decide +kernel
theorem dX11_restore_25 : decode cX11_restore 25 = .ok (.istore_n 2, 1) := by decide +kernel
theorem dX11_restore_26 : decode cX11_restore 26 = .ok (.iload_n 2, 1) := by decide +kernel
theorem dX11_restore_27 : decode cX11_restore 27 = .ok (.sipush 648, 3) := by decide +kernel
theorem dX11_restore_30 : decode cX11_restore 30 = .ok (.if_icmp .ge 27, 3) := by decide +kernel
theorem dX11_restore_33 : decode cX11_restore 33 = .ok (.aload_n 0, 1) := by decide +kernel
theorem dX11_restore_34 : decode cX11_restore 34 = .ok (.getfield 7, 3) := by decide +kernel
theorem dX11_restore_37 : decode cX11_restore 37 = .ok (.iload_n 2, 1) := by decide +kernel
theorem dX11_restore_38 : decode cX11_restore 38 = .ok (.aload_n 0, 1) := by decide +kernel
theorem dX11_restore_39 : decode cX11_restore 39 = .ok (.getfield 50, 3) := by decide +kernel
theorem dX11_restore_42 : decode cX11_restore 42 = .ok (.sipush 648, 3) := by decide +kernel
theorem dX11_restore_45 : decode cX11_restore 45 = .ok (.iload_n 1, 1) := by decide +kernel
theorem dX11_restore_46 : decode cX11_restore 46 = .ok (.imul, 1) := by decide +kernel
theorem dX11_restore_47 : decode cX11_restore 47 = .ok (.iload_n 2, 1) := by decide +kernel
theorem dX11_restore_48 : decode cX11_restore 48 = .ok (.iadd, 1) := by decide +kernel
theorem dX11_restore_49 : decode cX11_restore 49 = .ok (.iaload, 1) := by decide +kernel
theorem dX11_restore_50 : decode cX11_restore 50 = .ok (.iastore, 1) := by decide +kernel
theorem dX11_restore_51 : decode cX11_restore 51 = .ok (.iinc 2 1, 3) := by decide +kernel
theorem dX11_restore_54 : decode cX11_restore 54 = .ok (.goto (-28), 3) := by decide +kernel
theorem dX11_restore_57 : decode cX11_restore 57 = .ok (.iconst 0, 1) := by decide +kernel
theorem dX11_restore_58 : decode cX11_restore 58 = .ok (.istore_n 2, 1) := by decide +kernel
theorem dX11_restore_59 : decode cX11_restore 59 = .ok (.iload_n 2, 1) := by decide +kernel
theorem dX11_restore_60 : decode cX11_restore 60 = .ok (.bipush 8, 2) := by decide +kernel
theorem dX11_restore_62 : decode cX11_restore 62 = .ok (.if_icmp .ge 26, 3) := by decide +kernel
theorem dX11_restore_65 : decode cX11_restore 65 = .ok (.aload_n 0, 1) := by decide +kernel
theorem dX11_restore_66 : decode cX11_restore 66 = .ok (.getfield 13, 3) := by decide +kernel
theorem dX11_restore_69 : decode cX11_restore 69 = .ok (.iload_n 2, 1) := by decide +kernel
theorem dX11_restore_70 : decode cX11_restore 70 = .ok (.aload_n 0, 1) := by decide +kernel
theorem dX11_restore_71 : decode cX11_restore 71 = .ok (.getfield 53, 3) := by decide +kernel
theorem dX11_restore_74 : decode cX11_restore 74 = .ok (.bipush 8, 2) := by decide +kernel
theorem dX11_restore_76 : decode cX11_restore 76 = .ok (.iload_n 1, 1) := by decide +kernel
theorem dX11_restore_77 : decode cX11_restore 77 = .ok (.imul, 1) := by decide +kernel
theorem dX11_restore_78 : decode cX11_restore 78 = .ok (.iload_n 2, 1) := by decide +kernel
theorem dX11_restore_79 : decode cX11_restore 79 = .ok (.iadd, 1) := by decide +kernel
theorem dX11_restore_80 : decode cX11_restore 80 = .ok (.laload, 1) := by decide +kernel
theorem dX11_restore_81 : decode cX11_restore 81 = .ok (.lastore, 1) := by decide +kernel
theorem dX11_restore_82 : decode cX11_restore 82 = .ok (.iinc 2 1, 3) := by decide +kernel
theorem dX11_restore_85 : decode cX11_restore 85 = .ok (.goto (-26), 3) := by decide +kernel
theorem dX11_restore_88 : decode cX11_restore 88 = .ok (.iconst 1, 1) := by decide +kernel
theorem dX11_restore_89 : decode cX11_restore 89 = .ok (.ireturn, 1) := by decide +kernel
theorem dX11_isSheet_0 : decode cX11_isSheet 0 = .ok (.iload_n 0, 1) := by decide +kernel
theorem dX11_isSheet_1 : decode cX11_isSheet 1 = .ok (.i2l, 1) := by decide +kernel
theorem dX11_isSheet_2 : decode cX11_isSheet 2 = .ok (.lconst 0, 1) := by decide +kernel
theorem dX11_isSheet_3 : decode cX11_isSheet 3 = .ok (.ldc2_w 204, 3) := by decide +kernel
theorem dX11_isSheet_6 : decode cX11_isSheet 6 = .ok (.invokestatic 72, 3) := by decide +kernel
theorem dX11_isSheet_9 : decode cX11_isSheet 9 = .ok (.ireturn, 1) := by decide +kernel
theorem dX11_isLane_0 : decode cX11_isLane 0 = .ok (.iload_n 0, 1) := by decide +kernel
theorem dX11_isLane_1 : decode cX11_isLane 1 = .ok (.i2l, 1) := by decide +kernel
theorem dX11_isLane_2 : decode cX11_isLane 2 = .ok (.lconst 0, 1) := by decide +kernel
theorem dX11_isLane_3 : decode cX11_isLane 3 = .ok (.ldc2_w 194, 3) := by decide +kernel
theorem dX11_isLane_6 : decode cX11_isLane 6 = .ok (.invokestatic 72, 3) := by decide +kernel
theorem dX11_isLane_9 : decode cX11_isLane 9 = .ok (.ireturn, 1) := by decide +kernel
theorem dX11_finds_0 : decode cX11_finds 0 = .ok (.aload_n 0, 1) := by decide +kernel
theorem dX11_finds_1 : decode cX11_finds 1 = .ok (.getfield 60, 3) := by decide +kernel
theorem dX11_finds_4 : decode cX11_finds 4 = .ok (.iload_n 1, 1) := by decide +kernel
theorem dX11_finds_5 : decode cX11_finds 5 = .ok (.iaload, 1) := by decide +kernel
theorem dX11_finds_6 : decode cX11_finds 6 = .ok (.ifCond .ge 6, 3) := by decide +kernel
theorem dX11_finds_9 : decode cX11_finds 9 = .ok (.bipush (-11), 2) := by decide +kernel
theorem dX11_finds_11 : decode cX11_finds 11 = .ok (.ireturn, 1) := by decide +kernel
theorem dX11_finds_12 : decode cX11_finds 12 = .ok (.aload_n 0, 1) := by decide +kernel
theorem dX11_finds_13 : decode cX11_finds 13 = .ok (.getfield 60, 3) := by decide +kernel
theorem dX11_finds_16 : decode cX11_finds 16 = .ok (.iload_n 1, 1) := by decide +kernel
theorem dX11_finds_17 : decode cX11_finds 17 = .ok (.iaload, 1) := by decide +kernel
theorem dX11_finds_18 : decode cX11_finds 18 = .ok (.iload_n 2, 1) := by decide +kernel
theorem dX11_finds_19 : decode cX11_finds 19 = .ok (.if_icmp .eq 6, 3) := by decide +kernel
theorem dX11_finds_22 : decode cX11_finds 22 = .ok (.bipush (-12), 2) := by decide +kernel
theorem dX11_finds_24 : decode cX11_finds 24 = .ok (.ireturn, 1) := by decide +kernel
theorem dX11_finds_25 : decode cX11_finds 25 = .ok (.iload_n 3, 1) := by decide +kernel
theorem dX11_finds_26 : decode cX11_finds 26 = .ok (.ifCond .lt 20, 3) := by decide +kernel
theorem dX11_finds_29 : decode cX11_finds 29 = .ok (.iload_n 3, 1) := by decide +kernel
theorem dX11_finds_30 : decode cX11_finds 30 = .ok (.i2l, 1) := by decide +kernel
theorem dX11_finds_31 : decode cX11_finds 31 = .ok (.iload 4, 2) := by decide +kernel
theorem dX11_finds_33 : decode cX11_finds 33 = .ok (.i2l, 1) := by decide +kernel
theorem dX11_finds_34 : decode cX11_finds 34 = .ok (.ladd, 1) := by decide +kernel
theorem dX11_finds_35 : decode cX11_finds 35 = .ok (.aload_n 0, 1) := by decide +kernel
theorem dX11_finds_36 : decode cX11_finds 36 = .ok (.getfield 63, 3) := by decide +kernel
theorem dX11_finds_39 : decode cX11_finds 39 = .ok (.iload_n 1, 1) := by decide +kernel
theorem dX11_finds_40 : decode cX11_finds 40 = .ok (.iaload, 1) := by decide +kernel
theorem dX11_finds_41 : decode cX11_finds 41 = .ok (.i2l, 1) := by decide +kernel
theorem dX11_finds_42 : decode cX11_finds 42 = .ok (.lcmp, 1) := by decide +kernel
theorem dX11_finds_43 : decode cX11_finds 43 = .ok (.ifCond .le 8, 3) := by decide +kernel
theorem dX11_finds_46 : decode cX11_finds 46 = .ok (.bipush (-13), 2) := by decide +kernel
theorem dX11_finds_48 : decode cX11_finds 48 = .ok (.goto 4, 3) := by decide +kernel
theorem dX11_finds_51 : decode cX11_finds 51 = .ok (.iconst 0, 1) := by decide +kernel
theorem dX11_finds_52 : decode cX11_finds 52 = .ok (.ireturn, 1) := by decide +kernel
theorem dX11_sheet_0 : decode cX11_sheet 0 = .ok (.iload_n 1, 1) := by decide +kernel
theorem dX11_sheet_1 : decode cX11_sheet 1 = .ok (.invokestatic 99, 3) := by decide +kernel
theorem dX11_sheet_4 : decode cX11_sheet 4 = .ok (.ifCond .eq 16, 3) := by decide +kernel
theorem dX11_sheet_7 : decode cX11_sheet 7 = .ok (.iload_n 2, 1) := by decide +kernel
theorem dX11_sheet_8 : decode cX11_sheet 8 = .ok (.invokestatic 102, 3) := by decide +kernel
theorem dX11_sheet_11 : decode cX11_sheet 11 = .ok (.ifCond .eq 9, 3) := by decide +kernel
theorem dX11_sheet_14 : decode cX11_sheet 14 = .ok (.iload_n 3, 1) := by decide +kernel
theorem dX11_sheet_15 : decode cX11_sheet 15 = .ok (.bipush 40, 2) := by decide +kernel
theorem dX11_sheet_17 : decode cX11_sheet 17 = .ok (.if_icmp .le 5, 3) := by decide +kernel
theorem dX11_sheet_20 : decode cX11_sheet 20 = .ok (.iconst (-1), 1) := by decide +kernel
theorem dX11_sheet_21 : decode cX11_sheet 21 = .ok (.ireturn, 1) := by decide +kernel
theorem dX11_sheet_22 : decode cX11_sheet 22 = .ok (.iload_n 3, 1) := by decide +kernel
theorem dX11_sheet_23 : decode cX11_sheet 23 = .ok (.ifCond .ge 6, 3) := by decide +kernel
theorem dX11_sheet_26 : decode cX11_sheet 26 = .ok (.bipush (-14), 2) := by decide +kernel
theorem dX11_sheet_28 : decode cX11_sheet 28 = .ok (.ireturn, 1) := by decide +kernel
theorem dX11_sheet_29 : decode cX11_sheet 29 = .ok (.aload_n 0, 1) := by decide +kernel
theorem dX11_sheet_30 : decode cX11_sheet 30 = .ok (.getfield 60, 3) := by decide +kernel
theorem dX11_sheet_33 : decode cX11_sheet 33 = .ok (.iload_n 1, 1) := by decide +kernel
theorem dX11_sheet_34 : decode cX11_sheet 34 = .ok (.iload_n 2, 1) := by decide +kernel
theorem dX11_sheet_35 : decode cX11_sheet 35 = .ok (.iastore, 1) := by decide +kernel
theorem dX11_sheet_36 : decode cX11_sheet 36 = .ok (.aload_n 0, 1) := by decide +kernel
theorem dX11_sheet_37 : decode cX11_sheet 37 = .ok (.getfield 63, 3) := by decide +kernel
theorem dX11_sheet_40 : decode cX11_sheet 40 = .ok (.iload_n 1, 1) := by decide +kernel
theorem dX11_sheet_41 : decode cX11_sheet 41 = .ok (.iload_n 3, 1) := by decide +kernel
theorem dX11_sheet_42 : decode cX11_sheet 42 = .ok (.iastore, 1) := by decide +kernel
theorem dX11_sheet_43 : decode cX11_sheet 43 = .ok (.iconst 0, 1) := by decide +kernel
theorem dX11_sheet_44 : decode cX11_sheet 44 = .ok (.istore 4, 2) := by decide +kernel
theorem dX11_sheet_46 : decode cX11_sheet 46 = .ok (.iload 4, 2) := by decide +kernel
theorem dX11_sheet_48 : decode cX11_sheet 48 = .ok (.bipush 40, 2) := by decide +kernel
theorem dX11_sheet_50 : decode cX11_sheet 50 = .ok (.if_icmp .ge 22, 3) := by decide +kernel
theorem dX11_sheet_53 : decode cX11_sheet 53 = .ok (.aload_n 0, 1) := by decide +kernel
theorem dX11_sheet_54 : decode cX11_sheet 54 = .ok (.getfield 66, 3) := by decide +kernel
theorem dX11_sheet_57 : decode cX11_sheet 57 = .ok (.bipush 40, 2) := by decide +kernel
theorem dX11_sheet_59 : decode cX11_sheet 59 = .ok (.iload_n 1, 1) := by decide +kernel
theorem dX11_sheet_60 : decode cX11_sheet 60 = .ok (.imul, 1) := by decide +kernel
theorem dX11_sheet_61 : decode cX11_sheet 61 = .ok (.iload 4, 2) := by decide +kernel
theorem dX11_sheet_63 : decode cX11_sheet 63 = .ok (.iadd, 1) := by decide +kernel
theorem dX11_sheet_64 : decode cX11_sheet 64 = .ok (.iconst 0, 1) := by decide +kernel
theorem dX11_sheet_65 : decode cX11_sheet 65 = .ok (.iastore, 1) := by decide +kernel
theorem dX11_sheet_66 : decode cX11_sheet 66 = .ok (.iinc 4 1, 3) := by decide +kernel
theorem dX11_sheet_69 : decode cX11_sheet 69 = .ok (.goto (-23), 3) := by decide +kernel
theorem dX11_sheet_72 : decode cX11_sheet 72 = .ok (.iload_n 3, 1) := by decide +kernel
theorem dX11_sheet_73 : decode cX11_sheet 73 = .ok (.ireturn, 1) := by decide +kernel
theorem dX11_drop_0 : decode cX11_drop 0 = .ok (.iload_n 1, 1) := by decide +kernel
theorem dX11_drop_1 : decode cX11_drop 1 = .ok (.invokestatic 99, 3) := by decide +kernel
theorem dX11_drop_4 : decode cX11_drop 4 = .ok (.ifCond .ne 5, 3) := by decide +kernel
theorem dX11_drop_7 : decode cX11_drop 7 = .ok (.iconst (-1), 1) := by decide +kernel
theorem dX11_drop_8 : decode cX11_drop 8 = .ok (.ireturn, 1) := by decide +kernel
theorem dX11_drop_9 : decode cX11_drop 9 = .ok (.aload_n 0, 1) := by decide +kernel
theorem dX11_drop_10 : decode cX11_drop 10 = .ok (.getfield 60, 3) := by decide +kernel
theorem dX11_drop_13 : decode cX11_drop 13 = .ok (.iload_n 1, 1) := by decide +kernel
theorem dX11_drop_14 : decode cX11_drop 14 = .ok (.iaload, 1) := by decide +kernel
theorem dX11_drop_15 : decode cX11_drop 15 = .ok (.ifCond .ge 6, 3) := by decide +kernel
theorem dX11_drop_18 : decode cX11_drop 18 = .ok (.bipush (-11), 2) := by decide +kernel
theorem dX11_drop_20 : decode cX11_drop 20 = .ok (.ireturn, 1) := by decide +kernel
theorem dX11_drop_21 : decode cX11_drop 21 = .ok (.aload_n 0, 1) := by decide +kernel
theorem dX11_drop_22 : decode cX11_drop 22 = .ok (.getfield 60, 3) := by decide +kernel
theorem dX11_drop_25 : decode cX11_drop 25 = .ok (.iload_n 1, 1) := by decide +kernel
theorem dX11_drop_26 : decode cX11_drop 26 = .ok (.iconst (-1), 1) := by decide +kernel
theorem dX11_drop_27 : decode cX11_drop 27 = .ok (.iastore, 1) := by decide +kernel
theorem dX11_drop_28 : decode cX11_drop 28 = .ok (.aload_n 0, 1) := by decide +kernel
theorem dX11_drop_29 : decode cX11_drop 29 = .ok (.getfield 63, 3) := by decide +kernel
theorem dX11_drop_32 : decode cX11_drop 32 = .ok (.iload_n 1, 1) := by decide +kernel
theorem dX11_drop_33 : decode cX11_drop 33 = .ok (.iaload, 1) := by decide +kernel
theorem dX11_drop_34 : decode cX11_drop 34 = .ok (.ireturn, 1) := by decide +kernel
theorem dX11_item_0 : decode cX11_item 0 = .ok (.iload_n 1, 1) := by decide +kernel
theorem dX11_item_1 : decode cX11_item 1 = .ok (.invokestatic 99, 3) := by decide +kernel
theorem dX11_item_4 : decode cX11_item 4 = .ok (.ifCond .eq 10, 3) := by decide +kernel
theorem dX11_item_7 : decode cX11_item 7 = .ok (.iload_n 2, 1) := by decide +kernel
theorem dX11_item_8 : decode cX11_item 8 = .ok (.invokestatic 102, 3) := by decide +kernel
theorem dX11_item_11 : decode cX11_item 11 = .ok (.ifCond .ne 5, 3) := by decide +kernel
theorem dX11_item_14 : decode cX11_item 14 = .ok (.iconst (-1), 1) := by decide +kernel
theorem dX11_item_15 : decode cX11_item 15 = .ok (.ireturn, 1) := by decide +kernel
theorem dX11_item_16 : decode cX11_item 16 = .ok (.aload_n 0, 1) := by decide +kernel
theorem dX11_item_17 : decode cX11_item 17 = .ok (.iload_n 1, 1) := by decide +kernel
theorem dX11_item_18 : decode cX11_item 18 = .ok (.iload_n 2, 1) := by decide +kernel
theorem dX11_item_19 : decode cX11_item 19 = .ok (.iload_n 3, 1) := by decide +kernel
theorem dX11_item_20 : decode cX11_item 20 = .ok (.iconst 1, 1) := by decide +kernel
theorem dX11_item_21 : decode cX11_item 21 = .ok (.invokevirtual 105, 3) := by decide +kernel
theorem dX11_item_24 : decode cX11_item 24 = .ok (.istore 5, 2) := by decide +kernel
theorem dX11_item_26 : decode cX11_item 26 = .ok (.iload 5, 2) := by decide +kernel
theorem dX11_item_28 : decode cX11_item 28 = .ok (.ifCond .ge 6, 3) := by decide +kernel
theorem dX11_item_31 : decode cX11_item 31 = .ok (.iload 5, 2) := by decide +kernel
theorem dX11_item_33 : decode cX11_item 33 = .ok (.ireturn, 1) := by decide +kernel
theorem dX11_item_34 : decode cX11_item 34 = .ok (.aload_n 0, 1) := by decide +kernel
theorem dX11_item_35 : decode cX11_item 35 = .ok (.getfield 66, 3) := by decide +kernel
theorem dX11_item_38 : decode cX11_item 38 = .ok (.bipush 40, 2) := by decide +kernel
theorem dX11_item_40 : decode cX11_item 40 = .ok (.iload_n 1, 1) := by decide +kernel
theorem dX11_item_41 : decode cX11_item 41 = .ok (.imul, 1) := by decide +kernel
theorem dX11_item_42 : decode cX11_item 42 = .ok (.iload_n 3, 1) := by decide +kernel
theorem dX11_item_43 : decode cX11_item 43 = .ok (.iadd, 1) := by decide +kernel
theorem dX11_item_44 : decode cX11_item 44 = .ok (.iload_n 2, 1) := by decide +kernel
theorem dX11_item_45 : decode cX11_item 45 = .ok (.ifCond .ne 9, 3) := by decide +kernel
theorem dX11_item_48 : decode cX11_item 48 = .ok (.iload 4, 2) := by decide +kernel
theorem dX11_item_50 : decode cX11_item 50 = .ok (.i2b, 1) := by decide +kernel
theorem dX11_item_51 : decode cX11_item 51 = .ok (.goto 16, 3) := by decide +kernel
theorem dX11_item_54 : decode cX11_item 54 = .ok (.iload_n 2, 1) := by decide +kernel
theorem dX11_item_55 : decode cX11_item 55 = .ok (.iconst 1, 1) := by decide +kernel
theorem dX11_item_56 : decode cX11_item 56 = .ok (.if_icmp .ne 9, 3) := by decide +kernel
theorem dX11_item_59 : decode cX11_item 59 = .ok (.iload 4, 2) := by decide +kernel
theorem dX11_item_61 : decode cX11_item 61 = .ok (.i2s, 1) := by decide +kernel
theorem dX11_item_62 : decode cX11_item 62 = .ok (.goto 5, 3) := by decide +kernel
theorem dX11_item_65 : decode cX11_item 65 = .ok (.iload 4, 2) := by decide +kernel
theorem dX11_item_67 : decode cX11_item 67 = .ok (.iastore, 1) := by decide +kernel
theorem dX11_item_68 : decode cX11_item 68 = .ok (.iconst 1, 1) := by decide +kernel
theorem dX11_item_69 : decode cX11_item 69 = .ok (.ireturn, 1) := by decide +kernel
theorem dX11_copy_0 : decode cX11_copy 0 = .ok (.iload_n 1, 1) := by decide +kernel
theorem dX11_copy_1 : decode cX11_copy 1 = .ok (.invokestatic 99, 3) := by decide +kernel
theorem dX11_copy_4 : decode cX11_copy 4 = .ok (.ifCond .eq 10, 3) := by decide +kernel
theorem dX11_copy_7 : decode cX11_copy 7 = .ok (.iload_n 3, 1) := by decide +kernel
theorem dX11_copy_8 : decode cX11_copy 8 = .ok (.invokestatic 99, 3) := by decide +kernel
theorem dX11_copy_11 : decode cX11_copy 11 = .ok (.ifCond .ne 5, 3) := by decide +kernel
theorem dX11_copy_14 : decode cX11_copy 14 = .ok (.iconst (-1), 1) := by decide +kernel
theorem dX11_copy_15 : decode cX11_copy 15 = .ok (.ireturn, 1) := by decide +kernel
theorem dX11_copy_16 : decode cX11_copy 16 = .ok (.aload_n 0, 1) := by decide +kernel
theorem dX11_copy_17 : decode cX11_copy 17 = .ok (.getfield 60, 3) := by decide +kernel
theorem dX11_copy_20 : decode cX11_copy 20 = .ok (.iload_n 1, 1) := by decide +kernel
theorem dX11_copy_21 : decode cX11_copy 21 = .ok (.iaload, 1) := by decide +kernel
theorem dX11_copy_22 : decode cX11_copy 22 = .ok (.ifCond .lt 12, 3) := by decide +kernel
theorem dX11_copy_25 : decode cX11_copy 25 = .ok (.aload_n 0, 1) := by decide +kernel
theorem dX11_copy_26 : decode cX11_copy 26 = .ok (.getfield 60, 3) := by decide +kernel
theorem dX11_copy_29 : decode cX11_copy 29 = .ok (.iload_n 3, 1) := by decide +kernel
theorem dX11_copy_30 : decode cX11_copy 30 = .ok (.iaload, 1) := by decide +kernel
theorem dX11_copy_31 : decode cX11_copy 31 = .ok (.ifCond .ge 6, 3) := by decide +kernel
theorem dX11_copy_34 : decode cX11_copy 34 = .ok (.bipush (-11), 2) := by decide +kernel
theorem dX11_copy_36 : decode cX11_copy 36 = .ok (.ireturn, 1) := by decide +kernel
theorem dX11_copy_37 : decode cX11_copy 37 = .ok (.aload_n 0, 1) := by decide +kernel
theorem dX11_copy_38 : decode cX11_copy 38 = .ok (.getfield 60, 3) := by decide +kernel
theorem dX11_copy_41 : decode cX11_copy 41 = .ok (.iload_n 1, 1) := by decide +kernel
theorem dX11_copy_42 : decode cX11_copy 42 = .ok (.iaload, 1) := by decide +kernel
theorem dX11_copy_43 : decode cX11_copy 43 = .ok (.aload_n 0, 1) := by decide +kernel
theorem dX11_copy_44 : decode cX11_copy 44 = .ok (.getfield 60, 3) := by decide +kernel
theorem dX11_copy_47 : decode cX11_copy 47 = .ok (.iload_n 3, 1) := by decide +kernel
theorem dX11_copy_48 : decode cX11_copy 48 = .ok (.iaload, 1) := by decide +kernel
theorem dX11_copy_49 : decode cX11_copy 49 = .ok (.if_icmp .eq 6, 3) := by decide +kernel
theorem dX11_copy_52 : decode cX11_copy 52 = .ok (.bipush (-12), 2) := by decide +kernel
theorem dX11_copy_54 : decode cX11_copy 54 = .ok (.ireturn, 1) := by decide +kernel
theorem dX11_copy_55 : decode cX11_copy 55 = .ok (.iload 5, 2) := by decide +kernel
theorem dX11_copy_57 : decode cX11_copy 57 = .ok (.ifCond .lt 38, 3) := by decide +kernel
theorem dX11_copy_60 : decode cX11_copy 60 = .ok (.aload_n 0, 1) := by decide +kernel
theorem dX11_copy_61 : decode cX11_copy 61 = .ok (.iload_n 1, 1) := by decide +kernel
theorem dX11_copy_62 : decode cX11_copy 62 = .ok (.aload_n 0, 1) := by decide +kernel
theorem dX11_copy_63 : decode cX11_copy 63 = .ok (.getfield 60, 3) := by decide +kernel
theorem dX11_copy_66 : decode cX11_copy 66 = .ok (.iload_n 1, 1) := by decide +kernel
theorem dX11_copy_67 : decode cX11_copy 67 = .ok (.iaload, 1) := by decide +kernel
theorem dX11_copy_68 : decode cX11_copy 68 = .ok (.iload_n 2, 1) := by decide +kernel
theorem dX11_copy_69 : decode cX11_copy 69 = .ok (.iload 5, 2) := by decide +kernel
theorem dX11_copy_71 : decode cX11_copy 71 = .ok (.invokevirtual 105, 3) := by decide +kernel
theorem dX11_copy_74 : decode cX11_copy 74 = .ok (.ifCond .lt 21, 3) := by decide +kernel
theorem dX11_copy_77 : decode cX11_copy 77 = .ok (.aload_n 0, 1) := by decide +kernel
theorem dX11_copy_78 : decode cX11_copy 78 = .ok (.iload_n 3, 1) := by decide +kernel
theorem dX11_copy_79 : decode cX11_copy 79 = .ok (.aload_n 0, 1) := by decide +kernel
theorem dX11_copy_80 : decode cX11_copy 80 = .ok (.getfield 60, 3) := by decide +kernel
theorem dX11_copy_83 : decode cX11_copy 83 = .ok (.iload_n 3, 1) := by decide +kernel
theorem dX11_copy_84 : decode cX11_copy 84 = .ok (.iaload, 1) := by decide +kernel
theorem dX11_copy_85 : decode cX11_copy 85 = .ok (.iload 4, 2) := by decide +kernel
theorem dX11_copy_87 : decode cX11_copy 87 = .ok (.iload 5, 2) := by decide +kernel
theorem dX11_copy_89 : decode cX11_copy 89 = .ok (.invokevirtual 105, 3) := by decide +kernel
theorem dX11_copy_92 : decode cX11_copy 92 = .ok (.ifCond .ge 6, 3) := by decide +kernel
theorem dX11_copy_95 : decode cX11_copy 95 = .ok (.bipush (-13), 2) := by decide +kernel
theorem dX11_copy_97 : decode cX11_copy 97 = .ok (.ireturn, 1) := by decide +kernel
theorem dX11_copy_98 : decode cX11_copy 98 = .ok (.iconst 0, 1) := by decide +kernel
theorem dX11_copy_99 : decode cX11_copy 99 = .ok (.istore 6, 2) := by decide +kernel
theorem dX11_copy_101 : decode cX11_copy 101 = .ok (.iload 6, 2) := by decide +kernel
theorem dX11_copy_103 : decode cX11_copy 103 = .ok (.iload 5, 2) := by decide +kernel
theorem dX11_copy_105 : decode cX11_copy 105 = .ok (.if_icmp .ge 30, 3) := by decide +kernel
theorem dX11_copy_108 : decode cX11_copy 108 = .ok (.aload_n 0, 1) := by decide +kernel
theorem dX11_copy_109 : decode cX11_copy 109 = .ok (.getfield 69, 3) := by decide +kernel
theorem dX11_copy_112 : decode cX11_copy 112 = .ok (.iload 6, 2) := by decide +kernel
theorem dX11_copy_114 : decode cX11_copy 114 = .ok (.aload_n 0, 1) := by decide +kernel
theorem dX11_copy_115 : decode cX11_copy 115 = .ok (.getfield 66, 3) := by decide +kernel
theorem dX11_copy_118 : decode cX11_copy 118 = .ok (.bipush 40, 2) := by decide +kernel
theorem dX11_copy_120 : decode cX11_copy 120 = .ok (.iload_n 1, 1) := by decide +kernel
theorem dX11_copy_121 : decode cX11_copy 121 = .ok (.imul, 1) := by decide +kernel
theorem dX11_copy_122 : decode cX11_copy 122 = .ok (.iload_n 2, 1) := by decide +kernel
theorem dX11_copy_123 : decode cX11_copy 123 = .ok (.iadd, 1) := by decide +kernel
theorem dX11_copy_124 : decode cX11_copy 124 = .ok (.iload 6, 2) := by decide +kernel
theorem dX11_copy_126 : decode cX11_copy 126 = .ok (.iadd, 1) := by decide +kernel
theorem dX11_copy_127 : decode cX11_copy 127 = .ok (.iaload, 1) := by decide +kernel
theorem dX11_copy_128 : decode cX11_copy 128 = .ok (.iastore, 1) := by decide +kernel
theorem dX11_copy_129 : decode cX11_copy 129 = .ok (.iinc 6 1, 3) := by decide +kernel
theorem dX11_copy_132 : decode cX11_copy 132 = .ok (.goto (-31), 3) := by decide +kernel
theorem dX11_copy_135 : decode cX11_copy 135 = .ok (.iconst 0, 1) := by decide +kernel
theorem dX11_copy_136 : decode cX11_copy 136 = .ok (.istore 6, 2) := by decide +kernel
theorem dX11_copy_138 : decode cX11_copy 138 = .ok (.iload 6, 2) := by decide +kernel
theorem dX11_copy_140 : decode cX11_copy 140 = .ok (.iload 5, 2) := by decide +kernel
theorem dX11_copy_142 : decode cX11_copy 142 = .ok (.if_icmp .ge 31, 3) := by decide +kernel
theorem dX11_copy_145 : decode cX11_copy 145 = .ok (.aload_n 0, 1) := by decide +kernel
theorem dX11_copy_146 : decode cX11_copy 146 = .ok (.getfield 66, 3) := by decide +kernel
theorem dX11_copy_149 : decode cX11_copy 149 = .ok (.bipush 40, 2) := by decide +kernel
theorem dX11_copy_151 : decode cX11_copy 151 = .ok (.iload_n 3, 1) := by decide +kernel
theorem dX11_copy_152 : decode cX11_copy 152 = .ok (.imul, 1) := by decide +kernel
theorem dX11_copy_153 : decode cX11_copy 153 = .ok (.iload 4, 2) := by decide +kernel
theorem dX11_copy_155 : decode cX11_copy 155 = .ok (.iadd, 1) := by decide +kernel
theorem dX11_copy_156 : decode cX11_copy 156 = .ok (.iload 6, 2) := by decide +kernel
theorem dX11_copy_158 : decode cX11_copy 158 = .ok (.iadd, 1) := by decide +kernel
theorem dX11_copy_159 : decode cX11_copy 159 = .ok (.aload_n 0, 1) := by decide +kernel
theorem dX11_copy_160 : decode cX11_copy 160 = .ok (.getfield 69, 3) := by decide +kernel
theorem dX11_copy_163 : decode cX11_copy 163 = .ok (.iload 6, 2) := by decide +kernel
theorem dX11_copy_165 : decode cX11_copy 165 = .ok (.iaload, 1) := by decide +kernel
theorem dX11_copy_166 : decode cX11_copy 166 = .ok (.iastore, 1) := by decide +kernel
theorem dX11_copy_167 : decode cX11_copy 167 = .ok (.iinc 6 1, 3) := by decide +kernel
theorem dX11_copy_170 : decode cX11_copy 170 = .ok (.goto (-32), 3) := by decide +kernel
theorem dX11_copy_173 : decode cX11_copy 173 = .ok (.iload 5, 2) := by decide +kernel
theorem dX11_copy_175 : decode cX11_copy 175 = .ok (.ireturn, 1) := by decide +kernel
end
section
/-! what each method computes: by program out of its code -/
def X6_value (S : St) (a1 : Int32) (a2 : Int32) : Option (Int32) :=
  (ldA S 3 ((a1 * 6) + a2)).bind fun x1 =>
  some x1

def X6_sings (S : St) (a1 : Int32) : Option (Int32) :=
  (X6_value S a1 0).bind fun x2 =>
  if 4 ≤ x2 then
  some 0
  else
  some 1

def X6_between (S : St) (a1 : Int32) (a2 : Int32) : Option (Int32) :=
  (ldA S 4 ((a1 * 8) + a2)).bind fun x1 =>
  some x1

def X0_listen_L26 (v2 : Int32) : Nat → Int32 → St → Option (St)
  | 0, _, _ => none
  | n + 1, v3, S =>
    if (rI S 2 0) ≤ v3 then
    some S
    else
    (X6_sings S v3).bind fun x8 =>
      (if x8 = 0 then
      some S
      else
      (X6_between S v3 v2).bind fun x14 =>
        if x14 ≤ 0 then
        some S
        else
        (ldA S 28 v2).bind fun x16 =>
          (stA S 27 ((v2 * 8) + x16) v3).bind fun S18 =>
          (ldA S18 28 v2).bind fun x20 =>
          (stA S18 28 v2 (x20 + 1)).bind fun S22 =>
          (ldA S22 29 v2).bind fun x24 =>
          (X6_between S22 v3 v2).bind fun x27 =>
          (stA S22 29 v2 (x24 + x27)).bind fun S28 =>
          some S28).bind fun S10 =>
      X0_listen_L26 v2 n (v3 + 1) S10
def X0_listen_L2 : Nat → Int32 → St → Option (St)
  | 0, _, _ => none
  | n + 1, v2, S =>
    if (rI S 2 0) ≤ v2 then
    some S
    else
    (stA S 28 v2 0).bind fun S2 =>
      (stA S2 29 v2 0).bind fun S4 =>
      (X0_listen_L26 v2 FU 0 S4).bind fun S30 =>
      X0_listen_L2  n (v2 + 1) S30
def X0_listen (S : St) : Option (St) :=
  (X0_listen_L2  FU 0 S).bind fun S33 =>
  some S33

def X0_stretchWires_L2 (v2 : Int32) : Nat → Int32 → St → Option (St)
  | 0, _, _ => none
  | n + 1, v3, S =>
    if (rI S 2 0) ≤ v3 then
    some S
    else
    (ldA S 28 v3).bind fun x2 =>
      (stA S 29 v3 (x2 * v2)).bind fun S4 =>
      X0_stretchWires_L2 v2 n (v3 + 1) S4
def X0_stretchWires (S : St) (a2 : Int32) : Option (St) :=
  (X0_stretchWires_L2 a2 FU 0 S).bind fun S6 =>
  some S6

def X0_meanLag_L35 (S : St) (v1 : Int32) (v3 : Int32) : Nat → Int32 → Int32 → Option (Int32)
  | 0, _, _ => none
  | n + 1, v4, v5 =>
    if v3 ≤ v5 then
    some v4
    else
    (ldA S 27 ((v1 * 8) + v5)).bind fun x9 =>
      (ldA S (rR S 24 1) x9).bind fun x11 =>
      X0_meanLag_L35 S v1 v3 n (v4 + x11) (v5 + 1)
def X0_meanLag (S : St) (a1 : Int32) (a2 : Int32) : Option (Int32) :=
  (ldA S 28 a1).bind fun x1 =>
  if x1 = 0 then
  some 0
  else
  (ldA S 29 a1).bind fun x4 =>
    (ldA S (rR S 24 1) a1).bind fun x6 =>
    (X0_meanLag_L35 S a1 x1 FU (x4 - (x1 * (x6 + a2))) 0).bind fun x13 =>
    (dvO x13 x1).bind fun x15 =>
    some x15

def X0_timeAt (S : St) (a2 : Int32) (a3 : Int32) : Option (Int32) :=
  (X6_value S a2 0).bind fun x2 =>
  if x2 = 1 then
  some (a3 * (rI S 2 1))
  else
  if x2 = 2 then
    (X6_value S a2 3).bind fun x22 =>
      some ((a3 * (rI S 2 1)) - x22)
    else
    (ldA S (rR S 24 1) a2).bind fun x5 =>
      (if x2 = 3 then
      (X6_value S a2 4).bind fun x20 =>
        some x20
      else
      some (0 : Int32)).bind fun x8 =>
      (X0_meanLag S a2 x8).bind fun x12 =>
      (X6_value S a2 2).bind fun x14 =>
      (dvO (x14 * x12) 100).bind fun x15 =>
      (X6_value S a2 1).bind fun x18 =>
      some (if (x5 + 1) < (((x5 + (rI S 2 1)) + x18) + x15) then (((x5 + (rI S 2 1)) + x18) + x15) else (x5 + 1))

def X0_singTo_L2 (v2 : Int32) : Nat → Int32 → St → Option (St)
  | 0, _, _ => none
  | n + 1, v3, S =>
    if (rI S 2 0) ≤ v3 then
    some S
    else
    (X6_value S v3 0).bind fun x3 =>
      (if x3 = 2 then
      (X6_value S v3 3).bind fun x11 =>
        some (-x11)
      else
      some (0 : Int32)).bind fun x5 =>
      (stA S (rR S 24 0) v3 x5).bind fun S8 =>
      X0_singTo_L2 v2 n (v3 + 1) S8
def X0_singTo_L73 (v2 : Int32) (v3 : Int32) : Nat → Int32 → St → Option (St)
  | 0, _, _ => none
  | n + 1, v5, S =>
    if (rI S 2 0) ≤ v5 then
    some S
    else
    (X6_sings S v5).bind fun x21 =>
      (if x21 = 0 then
      some (0 : Int32)
      else
      (X0_timeAt S v5 v3).bind fun x29 =>
        some x29).bind fun x23 =>
      (stA S (rR S 24 0) v5 x23).bind fun S26 =>
      X0_singTo_L73 v2 v3 n (v5 + 1) S26
def X0_singTo_L45 (v2 : Int32) : Nat → Int32 → St → Option (St)
  | 0, _, _ => none
  | n + 1, v3, S =>
    if v2 < v3 then
    some S
    else
    (stR S 24 1 (rR S 24 0)).bind fun S15 =>
      (stR S15 24 0 (rR S 24 1)).bind fun S17 =>
      (X0_singTo_L73 v2 v3 FU 0 S17).bind fun S30 =>
      X0_singTo_L45 v2 n (v3 + 1) S30
def X0_singTo (S : St) (a2 : Int32) : Option (St) :=
  (X0_singTo_L2 a2 FU 0 S).bind fun S12 =>
  (X0_singTo_L45 a2 FU 1 S12).bind fun S33 =>
  some S33

def X0_timeOf (S : St) (a1 : Int32) : Option (Int32) :=
  (ldA S (rR S 24 0) a1).bind fun x1 =>
  some x1

def X0_meanPace_L7 (S : St) : Nat → Int32 → Int32 → Int32 → Option (Int32 × Int32)
  | 0, _, _, _ => none
  | n + 1, v2, v3, v4 =>
    if (rI S 2 0) ≤ v4 then
    some (v2, v3)
    else
    (X6_sings S v4).bind fun x3 =>
      (if x3 = 0 then
      some (v2, v3)
      else
      (ldA S (rR S 24 0) v4).bind fun x9 =>
        (ldA S (rR S 24 1) v4).bind fun x11 =>
        some ((v2 + (x9 - x11)), (v3 + 1))).bind fun (x5, x6) =>
      X0_meanPace_L7 S  n x5 x6 (v4 + 1)
def X0_meanPace (S : St) : Option (Int32) :=
  (X0_meanPace_L7 S  FU 0 0 0).bind fun (x13, x14) =>
  if x14 = 0 then
  some 0
  else
  (dvO x13 x14).bind fun x17 =>
    some x17

def X0_spread_L9 (S : St) : Nat → Int32 → Int32 → Int32 → Option (Int32 × Int32)
  | 0, _, _, _ => none
  | n + 1, v2, v3, v4 =>
    if (rI S 2 0) ≤ v4 then
    some (v2, v3)
    else
    (X6_sings S v4).bind fun x3 =>
      (if x3 = 0 then
      some (v2, v3)
      else
      (ldA S (rR S 24 0) v4).bind fun x9 =>
        (ldA S (rR S 24 0) v4).bind fun x11 =>
        some ((if x9 < v2 then x9 else v2), (if v3 < x11 then x11 else v3))).bind fun (x5, x6) =>
      X0_spread_L9 S  n x5 x6 (v4 + 1)
def X0_spread (S : St) : Option (Int32) :=
  (X0_spread_L9 S  FU 2147483647 (-2147483648) 0).bind fun (x13, x14) =>
  some (x14 - x13)

def X6_take (S : St) (a0 : Nat) (a1 : Nat) : Option (St) :=
  (ckO S a1 6).bind fun _ =>
  (ckO S a0 6).bind fun _ =>
  (stF S a0 0 (rI S a1 0)).bind fun S3 =>
  (ckO S3 a1 6).bind fun _ =>
  (ckO S3 a0 6).bind fun _ =>
  (stF S3 a0 1 (rI S3 a1 1)).bind fun S7 =>
  (ckO S7 a1 6).bind fun _ =>
  (ckO S7 a0 6).bind fun _ =>
  (stF S7 a0 2 (rI S7 a1 2)).bind fun S11 =>
  (ckO S11 a1 6).bind fun _ =>
  (ckO S11 a0 6).bind fun _ =>
  (ckO S11 a0 6).bind fun _ =>
  (alO S11 (a0 + 1)).bind fun x16 =>
  (cpI S11 (a1 + 1) 0 (a0 + 1) 0 x16).bind fun S18 =>
  (ckO S18 a1 6).bind fun _ =>
  (ckO S18 a0 6).bind fun _ =>
  (ckO S18 a0 6).bind fun _ =>
  (alO S18 (a0 + 2)).bind fun x23 =>
  (cpI S18 (a1 + 2) 0 (a0 + 2) 0 x23).bind fun S25 =>
  (ckO S25 a1 6).bind fun _ =>
  (ckO S25 a0 6).bind fun _ =>
  (ckO S25 a0 6).bind fun _ =>
  (alO S25 (a0 + 3)).bind fun x30 =>
  (cpI S25 (a1 + 3) 0 (a0 + 3) 0 x30).bind fun S32 =>
  some S32

def X5_take (S : St) (a0 : Nat) (a1 : Nat) : Option (St) :=
  (ckO S a1 5).bind fun _ =>
  (ckO S a0 5).bind fun _ =>
  (stF S a0 0 (rI S a1 0)).bind fun S3 =>
  (ckO S3 a1 5).bind fun _ =>
  (ckO S3 a0 5).bind fun _ =>
  (ckO S3 a0 5).bind fun _ =>
  (alO S3 (a0 + 1)).bind fun x8 =>
  (cpI S3 (a1 + 1) 0 (a0 + 1) 0 x8).bind fun S10 =>
  some S10

def X3_take (S : St) (a0 : Nat) (a1 : Nat) : Option (St) :=
  (ckO S a1 3).bind fun _ =>
  (ckO S a0 3).bind fun _ =>
  (stF S a0 0 (rI S a1 0)).bind fun S3 =>
  (ckO S3 a1 3).bind fun _ =>
  (ckO S3 a0 3).bind fun _ =>
  (ckO S3 a0 3).bind fun _ =>
  (alL S3 (a0 + 1)).bind fun x8 =>
  (cpJ S3 (a1 + 1) 0 (a0 + 1) 0 x8).bind fun S10 =>
  some S10

def X1_take (S : St) (a0 : Nat) (a1 : Nat) : Option (St) :=
  (ckO S a0 1).bind fun _ =>
  (ckO S a1 1).bind fun _ =>
  (ckO S (a0 + 1) 6).bind fun _ =>
  (X6_take S (a0 + 1) (a1 + 1)).bind fun S5 =>
  (ckO S5 a0 1).bind fun _ =>
  (ckO S5 a1 1).bind fun _ =>
  (ckO S5 (a0 + 5) 5).bind fun _ =>
  (X5_take S5 (a0 + 5) (a1 + 5)).bind fun S10 =>
  (ckO S10 a0 1).bind fun _ =>
  (ckO S10 a1 1).bind fun _ =>
  (ckO S10 (a0 + 7) 3).bind fun _ =>
  (X3_take S10 (a0 + 7) (a1 + 7)).bind fun S15 =>
  (ckO S15 a1 1).bind fun _ =>
  (ckO S15 a0 1).bind fun _ =>
  (stF S15 a0 3 (rI S15 a1 3)).bind fun S18 =>
  some S18

def X6_singers_L4 (S : St) : Nat → Int32 → Int32 → Option (Int32)
  | 0, _, _ => none
  | n + 1, v1, v2 =>
    if (rI S 2 0) ≤ v2 then
    some v1
    else
    (X6_sings S v2).bind fun x3 =>
      (if x3 = 0 then
      some (0 : Int32)
      else
      some ((1 <<< (v2 &&& 31)) : Int32)).bind fun x5 =>
      X6_singers_L4 S  n (v1 ||| x5) (v2 + 1)
def X6_singers (S : St) : Option (Int32) :=
  (X6_singers_L4 S  FU 0 0).bind fun x8 =>
  some x8

def X6_isCut (S : St) (a1 : Int32) : Option (Int32) :=
  (X6_value S a1 0).bind fun x2 =>
  if x2 = 5 then
  some 1
  else
  some 0

def X6_reachedByAll_L2 (S : St) (v1 : Int32) (v2 : Int32) : Nat → Int32 → Option ((Unit) ⊕ (Int32))
  | 0, _ => none
  | n + 1, v3 =>
    if (rI S 2 0) ≤ v3 then
    some (.inl ())
    else
    if ((v2 >>> (v3 &&& 31)) &&& 1) = 0 then
      X6_reachedByAll_L2 S v1 v2 n (v3 + 1)
      else
      (X6_between S v3 v1).bind fun x4 =>
        if x4 = 0 then
        some (.inr 0)
        else
        X6_reachedByAll_L2 S v1 v2 n (v3 + 1)
def X6_reachedByAll (S : St) (a1 : Int32) (a2 : Int32) : Option (Int32) :=
  (X6_reachedByAll_L2 S a1 a2 FU 0).bind fun t => match t with
  | .inr x8 => some x8
  | .inl _ =>
  some 1

def X6_shortestWire_L7 (S : St) (v1 : Int32) (v2 : Int32) : Nat → Int32 → Int32 → Option (Int32)
  | 0, _, _ => none
  | n + 1, v3, v4 =>
    if (rI S 2 0) ≤ v4 then
    some v3
    else
    (if ((v2 >>> (v4 &&& 31)) &&& 1) = 0 then
      some v3
      else
      (X6_between S v4 v1).bind fun x7 =>
        some (if x7 < v3 then x7 else v3)).bind fun x3 =>
      X6_shortestWire_L7 S v1 v2 n x3 (v4 + 1)
def X6_shortestWire (S : St) (a1 : Int32) (a2 : Int32) : Option (Int32) :=
  (X6_shortestWire_L7 S a1 a2 FU 400 0).bind fun x8 =>
  some x8

def X2_lead_L11 (v2 : Int32) (v4 : Int32) : Nat → Int32 → St → Option (St)
  | 0, _, _ => none
  | n + 1, v5, S =>
    if (rI S 2 0) ≤ v5 then
    some S
    else
    (X6_between S v5 v2).bind fun x5 =>
      (stA S 31 v5 (x5 - v4)).bind fun S6 =>
      X2_lead_L11 v2 v4 n (v5 + 1) S6
def X2_lead (S : St) (a2 : Int32) (a3 : Int32) : Option (St) :=
  (X6_shortestWire S a2 a3).bind fun x2 =>
  (X2_lead_L11 a2 x2 FU 0 S).bind fun S8 =>
  some S8

def X2_agrees_L11 (S : St) (v2 : Int32) (v3 : Int32) (v4 : Int32) : Nat → Int32 → Option ((Unit) ⊕ (Int32))
  | 0, _ => none
  | n + 1, v5 =>
    if (rI S 2 0) ≤ v5 then
    some (.inl ())
    else
    if ((v3 >>> (v5 &&& 31)) &&& 1) = 0 then
      X2_agrees_L11 S v2 v3 v4 n (v5 + 1)
      else
      (ldA S 31 v5).bind fun x5 =>
        (X6_between S v5 v2).bind fun x8 =>
        if x5 = (x8 - v4) then
        X2_agrees_L11 S v2 v3 v4 n (v5 + 1)
        else
        some (.inr 0)
def X2_agrees (S : St) (a2 : Int32) (a3 : Int32) : Option (Int32) :=
  (X6_shortestWire S a2 a3).bind fun x2 =>
  (X2_agrees_L11 S a2 a3 x2 FU 0).bind fun t => match t with
  | .inr x12 => some x12
  | .inl _ =>
  some 1

def X2_firstFailing_L15 (v2 : Int32) (v3 : Int32) : Nat → Int32 → Int32 → St → Option ((St) ⊕ (Int32 × St))
  | 0, _, _, _ => none
  | n + 1, v4, v5, S =>
    if (rI S 2 0) ≤ v5 then
    some (.inl S)
    else
    if v3 = 0 then
      some (.inl S)
      else
      if ((v2 >>> (v5 &&& 31)) &&& 1) = 0 then
        X2_firstFailing_L15 v2 v3 n v4 (v5 + 1) S
        else
        (X6_isCut S v5).bind fun x7 =>
          if x7 = 0 then
          (X6_reachedByAll S v5 v3).bind fun x10 =>
            if x10 = 0 then
            some (.inr (v5, S))
            else
            if v4 = 0 then
              (X2_lead S v5 v3).bind fun S17 =>
                X2_firstFailing_L15 v2 v3 n 1 (v5 + 1) S17
              else
              (X2_agrees S v5 v3).bind fun x14 =>
                if x14 = 0 then
                some (.inr (v5, S))
                else
                X2_firstFailing_L15 v2 v3 n v4 (v5 + 1) S
          else
          some (.inr (v5, S))
def X2_firstFailing (S : St) (a2 : Int32) : Option (Int32 × St) :=
  (X6_singers S ).bind fun x2 =>
  (X2_firstFailing_L15 a2 (x2 &&& (a2 ^^^ (-1))) FU 0 0 S).bind fun t => match t with
  | .inr (x21, S22) => some (x21, S22)
  | .inl S18 =>
  some ((-4), S18)

def X2_leadOf (S : St) (a1 : Int32) : Option (Int32) :=
  (ldA S 31 a1).bind fun x1 =>
  some x1

def X3_add (S : St) (a1 : Int64) : Option (Int32 × St) :=
  (stL S 9 (rI S 8 0) a1).bind fun S1 =>
  (stF S1 8 0 ((rI S1 8 0) + 1)).bind fun S3 =>
  some (((rI S3 8 0) - 1), S3)

def J6_bitCount_0f7a4 (S : St) (a0 : Int32) : Option (Int32) :=
  some ((((((((a0 - (((a0 : Int32).toUInt32 >>> ((1 : Int32).toUInt32 &&& Int32.toUInt32 31)).toInt32 &&& 1431655765)) &&& 858993459) + ((((a0 - (((a0 : Int32).toUInt32 >>> ((1 : Int32).toUInt32 &&& Int32.toUInt32 31)).toInt32 &&& 1431655765)) : Int32).toUInt32 >>> ((2 : Int32).toUInt32 &&& Int32.toUInt32 31)).toInt32 &&& 858993459)) + (((((a0 - (((a0 : Int32).toUInt32 >>> ((1 : Int32).toUInt32 &&& Int32.toUInt32 31)).toInt32 &&& 1431655765)) &&& 858993459) + ((((a0 - (((a0 : Int32).toUInt32 >>> ((1 : Int32).toUInt32 &&& Int32.toUInt32 31)).toInt32 &&& 1431655765)) : Int32).toUInt32 >>> ((2 : Int32).toUInt32 &&& Int32.toUInt32 31)).toInt32 &&& 858993459)) : Int32).toUInt32 >>> ((4 : Int32).toUInt32 &&& Int32.toUInt32 31)).toInt32) &&& 252645135) + (((((((a0 - (((a0 : Int32).toUInt32 >>> ((1 : Int32).toUInt32 &&& Int32.toUInt32 31)).toInt32 &&& 1431655765)) &&& 858993459) + ((((a0 - (((a0 : Int32).toUInt32 >>> ((1 : Int32).toUInt32 &&& Int32.toUInt32 31)).toInt32 &&& 1431655765)) : Int32).toUInt32 >>> ((2 : Int32).toUInt32 &&& Int32.toUInt32 31)).toInt32 &&& 858993459)) + (((((a0 - (((a0 : Int32).toUInt32 >>> ((1 : Int32).toUInt32 &&& Int32.toUInt32 31)).toInt32 &&& 1431655765)) &&& 858993459) + ((((a0 - (((a0 : Int32).toUInt32 >>> ((1 : Int32).toUInt32 &&& Int32.toUInt32 31)).toInt32 &&& 1431655765)) : Int32).toUInt32 >>> ((2 : Int32).toUInt32 &&& Int32.toUInt32 31)).toInt32 &&& 858993459)) : Int32).toUInt32 >>> ((4 : Int32).toUInt32 &&& Int32.toUInt32 31)).toInt32) &&& 252645135) : Int32).toUInt32 >>> ((8 : Int32).toUInt32 &&& Int32.toUInt32 31)).toInt32) + ((((((((a0 - (((a0 : Int32).toUInt32 >>> ((1 : Int32).toUInt32 &&& Int32.toUInt32 31)).toInt32 &&& 1431655765)) &&& 858993459) + ((((a0 - (((a0 : Int32).toUInt32 >>> ((1 : Int32).toUInt32 &&& Int32.toUInt32 31)).toInt32 &&& 1431655765)) : Int32).toUInt32 >>> ((2 : Int32).toUInt32 &&& Int32.toUInt32 31)).toInt32 &&& 858993459)) + (((((a0 - (((a0 : Int32).toUInt32 >>> ((1 : Int32).toUInt32 &&& Int32.toUInt32 31)).toInt32 &&& 1431655765)) &&& 858993459) + ((((a0 - (((a0 : Int32).toUInt32 >>> ((1 : Int32).toUInt32 &&& Int32.toUInt32 31)).toInt32 &&& 1431655765)) : Int32).toUInt32 >>> ((2 : Int32).toUInt32 &&& Int32.toUInt32 31)).toInt32 &&& 858993459)) : Int32).toUInt32 >>> ((4 : Int32).toUInt32 &&& Int32.toUInt32 31)).toInt32) &&& 252645135) + (((((((a0 - (((a0 : Int32).toUInt32 >>> ((1 : Int32).toUInt32 &&& Int32.toUInt32 31)).toInt32 &&& 1431655765)) &&& 858993459) + ((((a0 - (((a0 : Int32).toUInt32 >>> ((1 : Int32).toUInt32 &&& Int32.toUInt32 31)).toInt32 &&& 1431655765)) : Int32).toUInt32 >>> ((2 : Int32).toUInt32 &&& Int32.toUInt32 31)).toInt32 &&& 858993459)) + (((((a0 - (((a0 : Int32).toUInt32 >>> ((1 : Int32).toUInt32 &&& Int32.toUInt32 31)).toInt32 &&& 1431655765)) &&& 858993459) + ((((a0 - (((a0 : Int32).toUInt32 >>> ((1 : Int32).toUInt32 &&& Int32.toUInt32 31)).toInt32 &&& 1431655765)) : Int32).toUInt32 >>> ((2 : Int32).toUInt32 &&& Int32.toUInt32 31)).toInt32 &&& 858993459)) : Int32).toUInt32 >>> ((4 : Int32).toUInt32 &&& Int32.toUInt32 31)).toInt32) &&& 252645135) : Int32).toUInt32 >>> ((8 : Int32).toUInt32 &&& Int32.toUInt32 31)).toInt32) : Int32).toUInt32 >>> ((16 : Int32).toUInt32 &&& Int32.toUInt32 31)).toInt32) &&& 63)

def X3_lostOf_L5 (S : St) (v1 : Int32) (v2 : Int32) : Nat → Int32 → Int32 → Option (Int32)
  | 0, _, _ => none
  | n + 1, v3, v4 =>
    if 24 ≤ v4 then
    some v3
    else
    if 24 ≤ (v4 * v2) then
      some v3
      else
      (ldL S 9 v1).bind fun x3 =>
        (ldL S 9 v1).bind fun x5 =>
        (if (lg_cmp ((x5 >>> (((24 + v4) : Int32).toInt64 &&& 63)) &&& 1) 0) = 0 then
        some (0 : Int32)
        else
        some (1 : Int32)).bind fun x8 =>
        (if x8 = 0 then
        (J6_bitCount_0f7a4 S ((x3 : Int64).toInt32 &&& ((1 <<< ((if ((v4 * v2) + v2) < 24 then ((v4 * v2) + v2) else 24) &&& 31)) - (1 <<< ((v4 * v2) &&& 31))))).bind fun x16 =>
          if x16 ≤ 1 then
          some v3
          else
          some (v3 ||| ((x3 : Int64).toInt32 &&& ((1 <<< ((if ((v4 * v2) + v2) < 24 then ((v4 * v2) + v2) else 24) &&& 31)) - (1 <<< ((v4 * v2) &&& 31)))))
        else
        some (v3 ||| ((x3 : Int64).toInt32 &&& ((1 <<< ((if ((v4 * v2) + v2) < 24 then ((v4 * v2) + v2) else 24) &&& 31)) - (1 <<< ((v4 * v2) &&& 31)))))).bind fun x12 =>
        X3_lostOf_L5 S v1 v2 n x12 (v4 + 1)
def X3_lostOf (S : St) (a1 : Int32) (a2 : Int32) : Option (Int32) :=
  (X3_lostOf_L5 S a1 a2 FU 0 0).bind fun x18 =>
  some x18

def X3_losesNothing_L2 (S : St) (v1 : Int32) : Nat → Int32 → Option ((Unit) ⊕ (Int32))
  | 0, _ => none
  | n + 1, v2 =>
    if (rI S 8 0) ≤ v2 then
    some (.inl ())
    else
    (X3_lostOf S v2 v1).bind fun x3 =>
      if x3 = 0 then
      X3_losesNothing_L2 S v1 n (v2 + 1)
      else
      some (.inr 0)
def X3_losesNothing (S : St) (a1 : Int32) : Option (Int32) :=
  (X3_losesNothing_L2 S a1 FU 0).bind fun t => match t with
  | .inr x7 => some x7
  | .inl _ =>
  some 1

def X4_gather_L7 : Nat → Int32 → St → Option (St)
  | 0, _, _ => none
  | n + 1, v2, S =>
    if (rI S 2 0) ≤ v2 then
    some S
    else
    if 6 ≤ (rI S 35 0) then
      some S
      else
      (X6_isCut S v2).bind fun x6 =>
        (if x6 = 0 then
        (stA S 36 (rI S 35 0) v2).bind fun S11 =>
          (stF S11 35 0 ((rI S11 35 0) + 1)).bind fun S13 =>
          some S13
        else
        some S).bind fun S8 =>
        X4_gather_L7  n (v2 + 1) S8
def X4_gather (S : St) : Option (St) :=
  (stF S 35 0 0).bind fun S1 =>
  (X4_gather_L7  FU 0 S1).bind fun S15 =>
  some S15

def J7_fill_53178_L5 (v0 : Nat) (v1 : Int32) (v3 : Int32) : Nat → Int32 → St → Option (St)
  | 0, _, _ => none
  | n + 1, v2, S =>
    if v3 ≤ v2 then
    some S
    else
    (stA S v0 v2 v1).bind fun S4 =>
      J7_fill_53178_L5 v0 v1 v3 n (v2 + 1) S4
def J7_fill_53178 (S : St) (a0 : Nat) (a1 : Int32) : Option (St) :=
  (alO S a0).bind fun x1 =>
  (J7_fill_53178_L5 a0 a1 x1 FU 0 S).bind fun S6 =>
  some S6

def X4_takeLeaf_L2 : Nat → Int32 → St → Option ((St) ⊕ (Int32 × St))
  | 0, _, _ => none
  | n + 1, v1, S =>
    if (rI S 35 0) ≤ v1 then
    some (.inl S)
    else
    (ldA S 38 v1).bind fun x2 =>
      if x2 = 1 then
      (stA S 38 v1 0).bind fun S5 =>
        some (.inr (v1, S5))
      else
      X4_takeLeaf_L2  n (v1 + 1) S
def X4_takeLeaf (S : St) : Option (Int32 × St) :=
  (X4_takeLeaf_L2  FU 0 S).bind fun t => match t with
  | .inr (x10, S11) => some (x10, S11)
  | .inl S7 =>
  some (0, S7)

def X4_blinksOf (S : St) (a2 : Int32) (a3 : Int32) : Option (Int32) :=
  (ldA S 36 a2).bind fun x1 =>
  (ldA S 36 a3).bind fun x3 =>
  (X6_between S x1 x3).bind fun x6 =>
  some x6

def X4_decode_L13 : Nat → Int32 → Int32 → St → Option (St)
  | 0, _, _, _ => none
  | n + 1, v3, v4, S =>
    if ((rI S 35 0) - 2) ≤ v4 then
    some S
    else
    (rmO v3 (rI S 35 0)).bind fun x4 =>
      (stA S 37 v4 x4).bind fun S6 =>
      (dvO v3 (rI S6 35 0)).bind fun x8 =>
      (ldA S6 37 v4).bind fun x10 =>
      (ldA S6 38 x10).bind fun x12 =>
      (stA S6 38 x10 (x12 + 1)).bind fun S14 =>
      X4_decode_L13  n x8 (v4 + 1) S14
def X4_decode_L69 (S : St) : Nat → Int32 → Option ((Unit) ⊕ (Int32 × St))
  | 0, _ => none
  | n + 1, v4 =>
    if (rI S 35 0) ≤ v4 then
    some (.inl ())
    else
    (ldA S 38 v4).bind fun x19 =>
      if x19 ≤ (rI S 2 2) then
      X4_decode_L69 S  n (v4 + 1)
      else
      some (.inr (0, S))
def X4_decode_L103 : Nat → Int32 → St → Option ((St) ⊕ (Int32 × St))
  | 0, _, _ => none
  | n + 1, v4, S =>
    if ((rI S 35 0) - 1) ≤ v4 then
    some (.inl S)
    else
    (X4_takeLeaf S ).bind fun (x25, S26) =>
      (stA S26 39 v4 x25).bind fun S27 =>
      (if ((rI S27 35 0) - 2) ≤ v4 then
      (X4_takeLeaf S27 ).bind fun (x57, S58) =>
        some (x57, S58)
      else
      (ldA S27 37 v4).bind fun x59 =>
        some (x59, S27)).bind fun (x30, S31) =>
      (stA S31 40 v4 x30).bind fun S34 =>
      (ldA S34 40 v4).bind fun x36 =>
      (ldA S34 38 x36).bind fun x38 =>
      (stA S34 38 x36 (x38 - 1)).bind fun S40 =>
      (ldA S40 39 v4).bind fun x42 =>
      (ldA S40 40 v4).bind fun x44 =>
      (X4_blinksOf S40 x42 x44).bind fun x47 =>
      if x47 = 0 then
      some (.inr (0, S40))
      else
      (ldA S40 40 v4).bind fun x49 =>
        (ldA S40 39 v4).bind fun x51 =>
        (X4_blinksOf S40 x49 x51).bind fun x54 =>
        if x54 = 0 then
        some (.inr (0, S40))
        else
        X4_decode_L103  n (v4 + 1) S40
def X4_decode (S : St) (a2 : Int32) : Option (Int32 × St) :=
  (J7_fill_53178 S 38 1).bind fun S2 =>
  (X4_decode_L13  FU a2 0 S2).bind fun S16 =>
  (X4_decode_L69 S16  FU 0).bind fun t => match t with
  | .inr (x67, S68) => some (x67, S68)
  | .inl _ =>
  (X4_decode_L103  FU 0 S16).bind fun t => match t with
  | .inr (x64, S65) => some (x64, S65)
  | .inl S61 =>
  some (1, S61)

def X4_join_L24 (v2 : Int32) (v3 : Int32) (v4 : Int32) (v5 : Int32) (v6 : Int32) : Nat → Int32 → Int32 → St → Option (Int32 × St)
  | 0, _, _, _ => none
  | n + 1, v7, v8, S =>
    if (rI S 35 0) ≤ v8 then
    some (v7, S)
    else
    (if ((v4 >>> (v8 &&& 31)) &&& 1) = 0 then
      some (v7, S)
      else
      (if v8 = v3 then
        some (1 : Int32)
        else
        some (0 : Int32)).bind fun x12 =>
        (if x12 = 0 then
        (ldA S 41 ((v3 * 6) + v8)).bind fun x33 =>
          some x33
        else
        some (0 : Int32)).bind fun x16 =>
        (stA S 41 ((v2 * 6) + v8) (v5 + x16)).bind fun S19 =>
        (if x12 = 0 then
        (ldA S19 41 ((v8 * 6) + v3)).bind fun x31 =>
          some x31
        else
        some (0 : Int32)).bind fun x22 =>
        (stA S19 41 ((v8 * 6) + v2) (v6 + x22)).bind fun S25 =>
        (ldA S25 41 ((v2 * 6) + v8)).bind fun x27 =>
        (ldA S25 41 ((v8 * 6) + v2)).bind fun x29 =>
        some ((if (if v7 < x27 then x27 else v7) < x29 then x29 else (if v7 < x27 then x27 else v7)), S25)).bind fun (x7, S8) =>
      X4_join_L24 v2 v3 v4 v5 v6 n x7 (v8 + 1) S8
def X4_join (S : St) (a2 : Int32) (a3 : Int32) (a4 : Int32) : Option (Int32 × St) :=
  (X4_blinksOf S a2 a3).bind fun x2 =>
  (X4_blinksOf S a3 a2).bind fun x4 =>
  (X4_join_L24 a2 a3 a4 x2 x4 FU 0 0 S).bind fun (x35, S36) =>
  some (x35, S36)

def X4_greatestWait_L24 : Nat → Int32 → Int32 → Int32 → St → Option (Int32 × St)
  | 0, _, _, _, _ => none
  | n + 1, v2, v3, v4, S =>
    if v4 < 0 then
    some (v2, S)
    else
    (ldA S 39 v4).bind fun x4 =>
      (ldA S 40 v4).bind fun x6 =>
      (X4_join S x4 x6 v3).bind fun (x9, S10) =>
      (ldA S10 39 v4).bind fun x11 =>
      X4_greatestWait_L24  n (if v2 < x9 then x9 else v2) (v3 ||| (1 <<< (x11 &&& 31))) (v4 + (-1)) S10
def X4_greatestWait (S : St) : Option (Int32 × St) :=
  (ldA S 40 ((rI S 35 0) - 2)).bind fun x1 =>
  (X4_greatestWait_L24  FU 0 (1 <<< (x1 &&& 31)) ((rI S 35 0) - 2) S).bind fun (x13, S14) =>
  some (x13, S14)

def X4_leastWait_L9 (S : St) : Nat → Int32 → Int32 → Option (Int32)
  | 0, _, _ => none
  | n + 1, v2, v3 =>
    if ((rI S 35 0) - 2) ≤ v3 then
    some v2
    else
    X4_leastWait_L9 S  n (v2 * (rI S 35 0)) (v3 + 1)
def X4_leastWait_L38 (v2 : Int32) : Nat → Int32 → Int32 → St → Option (Int32 × St)
  | 0, _, _, _ => none
  | n + 1, v3, v4, S =>
    if v2 ≤ v4 then
    some (v3, S)
    else
    (X4_decode S v4).bind fun (x8, S9) =>
      (if x8 = 0 then
      some (v3, S9)
      else
      (X4_greatestWait S9 ).bind fun (x16, S17) =>
        (if v3 = (-4) then
        some x16
        else
        some (if x16 < v3 then x16 else v3)).bind fun x19 =>
        some (x19, S17)).bind fun (x11, S12) =>
      X4_leastWait_L38 v2 n x11 (v4 + 1) S12
def X4_leastWait (S : St) : Option (Int32 × St) :=
  (X4_gather S ).bind fun S2 =>
  (X4_leastWait_L9 S2  FU 1 0).bind fun x4 =>
  (X4_leastWait_L38 x4 FU (-4) 0 S2).bind fun (x22, S23) =>
  some (x22, S23)

def X5_append_L3 (v1 : Int32) (v2 : Int32) (v3 : Int32) : Nat → Int32 → St → Option (St)
  | 0, _, _ => none
  | n + 1, v4, S =>
    if v2 ≤ v4 then
    some S
    else
    (if v3 = 0 then
      some (0 : Int32)
      else
      if v4 = (v2 - 1) then
        some (10 : Int32)
        else
        some (0 : Int32)).bind fun x3 =>
      (stA S 13 (rI S 12 0) (v1 + x3)).bind fun S6 =>
      (stF S6 12 0 ((rI S6 12 0) + 1)).bind fun S8 =>
      X5_append_L3 v1 v2 v3 n (v4 + 1) S8
def X5_append (S : St) (a1 : Int32) (a2 : Int32) (a3 : Int32) : Option (St) :=
  (X5_append_L3 a1 a2 a3 FU 0 S).bind fun S11 =>
  some S11

def X5_breaths_L4 (S : St) : Nat → Int32 → Int32 → Option (Int32)
  | 0, _, _ => none
  | n + 1, v1, v2 =>
    if (rI S 6 0) ≤ v2 then
    some v1
    else
    (ldA S 7 v2).bind fun x2 =>
      (if x2 < 10 then
      some (0 : Int32)
      else
      some (1 : Int32)).bind fun x5 =>
      X5_breaths_L4 S  n (v1 + x5) (v2 + 1)
def X5_breaths (S : St) : Option (Int32) :=
  (X5_breaths_L4 S  FU 0 0).bind fun x8 =>
  some x8

def X5_behindLastBreath_L9 (S : St) : Nat → Int32 → Option ((Unit) ⊕ (Int32))
  | 0, _ => none
  | n + 1, v2 =>
    if v2 ≤ 0 then
    some (.inl ())
    else
    (ldA S 7 (v2 - 1)).bind fun x2 =>
      if x2 < 10 then
      X5_behindLastBreath_L9 S  n (v2 + (-1))
      else
      some (.inr v2)
def X5_behindLastBreath (S : St) (a1 : Int32) : Option (Int32) :=
  (X5_behindLastBreath_L9 S  FU (if (rI S 6 0) < a1 then (rI S 6 0) else a1)).bind fun t => match t with
  | .inr x7 => some x7
  | .inl _ =>
  some 0

def X5_clashesAt_L5 (S : St) (v1 : Int32) (v2 : Int32) : Nat → Int32 → Int32 → Option (Int32)
  | 0, _, _ => none
  | n + 1, v3, v4 =>
    if (rI S 6 0) ≤ v4 then
    some v3
    else
    (ldA S 7 v4).bind fun x2 =>
      (rmO x2 10).bind fun x4 =>
      (ldA S 7 (v4 - v1)).bind fun x6 =>
      (rmO x6 10).bind fun x8 =>
      (if x4 = 0 then
      some v3
      else
      if x8 = 0 then
        some v3
        else
        if ((v2 >>> ((if 0 ≤ (x4 - x8) then (x4 - x8) else 0 - (x4 - x8)) &&& 31)) &&& 1) = 0 then
          some (v3 + 1)
          else
          some v3).bind fun x11 =>
      X5_clashesAt_L5 S v1 v2 n x11 (v4 + 1)
def X5_clashesAt (S : St) (a1 : Int32) (a2 : Int32) : Option (Int32) :=
  (X5_clashesAt_L5 S a1 a2 FU 0 a1).bind fun x16 =>
  some x16

def X6_add (S : St) (a1 : Int32) : Option (Int32 × St) :=
  (stF S 2 0 ((rI S 2 0) + 1)).bind fun S1 =>
  (cpF S1 FIRSTV 0 3 ((rI S 2 0) * 6) 6).bind fun S3 =>
  (stA S3 3 (((rI S 2 0) * 6) + 0) a1).bind fun S5 =>
  some ((rI S 2 0), S5)

def X6_has (S : St) (a1 : Int32) : Option (Int32) :=
  if a1 < 0 then
  some 0
  else
  if (rI S 2 0) ≤ a1 then
    some 0
    else
    some 1

def X6_hasTwo (S : St) (a1 : Int32) (a2 : Int32) : Option (Int32) :=
  (X6_has S a1).bind fun x2 =>
  if x2 = 0 then
  some 0
  else
  (X6_has S a2).bind fun x5 =>
    if x5 = 0 then
    some 0
    else
    if a1 = a2 then
      some 0
      else
      some 1

def X6_change (S : St) (a1 : Int32) (a2 : Int32) (a3 : Int32) : Option (Int32 × St) :=
  (X6_value S a1 a2).bind fun x2 =>
  (stA S 3 ((a1 * 6) + a2) a3).bind fun S3 =>
  some (x2, S3)

def X6_all (S : St) : Option (Int32) :=
  some ((1 <<< ((rI S 2 0) &&& 31)) - 1)

def X6_uncut_L4 (S : St) : Nat → Int32 → Int32 → Option (Int32)
  | 0, _, _ => none
  | n + 1, v1, v2 =>
    if (rI S 2 0) ≤ v2 then
    some v1
    else
    (X6_isCut S v2).bind fun x3 =>
      (if x3 = 0 then
      some ((1 <<< (v2 &&& 31)) : Int32)
      else
      some (0 : Int32)).bind fun x5 =>
      X6_uncut_L4 S  n (v1 ||| x5) (v2 + 1)
def X6_uncut (S : St) : Option (Int32) :=
  (X6_uncut_L4 S  FU 0 0).bind fun x8 =>
  some x8

def X6_lay (S : St) (a1 : Int32) (a2 : Int32) (a3 : Int32) : Option (Int32 × St) :=
  (X6_between S a1 a2).bind fun x2 =>
  (stA S 4 ((a1 * 8) + a2) a3).bind fun S3 =>
  some (x2, S3)

def X6_canLayAll_L3 (S : St) (v1 : Int32) (v2 : Nat) (v3 : Int32) : Nat → Int32 → Option ((Unit) ⊕ (Int32))
  | 0, _ => none
  | n + 1, v4 =>
    if (rI S 2 0) ≤ v4 then
    some (.inl ())
    else
    (ckO S v2 7).bind fun _ =>
      (ldA S (v2 + 1) (v3 + v4)).bind fun x3 =>
      if x3 < 0 then
      some (.inr 0)
      else
      if 400 < x3 then
        some (.inr 0)
        else
        if v4 = v1 then
          if x3 = 0 then
            X6_canLayAll_L3 S v1 v2 v3 n (v4 + 1)
            else
            some (.inr 0)
          else
          X6_canLayAll_L3 S v1 v2 v3 n (v4 + 1)
def X6_canLayAll (S : St) (a2 : Nat) (a1 : Int32) (a3 : Int32) : Option (Int32) :=
  (X6_canLayAll_L3 S a1 a2 a3 FU 0).bind fun t => match t with
  | .inr x11 => some x11
  | .inl _ =>
  some 1

def X6_layAll_L6 (v1 : Int32) (v2 : Nat) (v3 : Int32) : Nat → Int32 → Int32 → St → Option (Int32 × St)
  | 0, _, _, _ => none
  | n + 1, v4, v5, S =>
    if (rI S 2 0) ≤ v5 then
    some (v4, S)
    else
    (ckO S v2 7).bind fun _ =>
      (ldA S (v2 + 1) (v3 + v5)).bind fun x3 =>
      (X6_lay S v1 v5 x3).bind fun (x6, S7) =>
      (X6_between S7 v1 v5).bind fun x9 =>
      (if x9 ≤ 0 then
      some (0 : Int32)
      else
      some (1 : Int32)).bind fun x11 =>
      X6_layAll_L6 v1 v2 v3 n (v4 + x11) (v5 + 1) S7
def X6_layAll (S : St) (a2 : Nat) (a1 : Int32) (a3 : Int32) : Option (Int32 × St) :=
  (X6_layAll_L6 a1 a2 a3 FU 0 0 S).bind fun (x14, S15) =>
  some (x14, S15)

def X6_wiresInAll_L13 (S : St) (v3 : Int32) : Nat → Int32 → Int32 → Option (Int32)
  | 0, _, _ => none
  | n + 1, v1, v4 =>
    if v3 ≤ v4 then
    some v1
    else
    (ldA S 4 v4).bind fun x4 =>
      (if x4 ≤ 0 then
      some (0 : Int32)
      else
      some (1 : Int32)).bind fun x7 =>
      X6_wiresInAll_L13 S v3 n (v1 + x7) (v4 + 1)
def X6_wiresInAll (S : St) : Option (Int32) :=
  (alO S 4).bind fun x1 =>
  (X6_wiresInAll_L13 S x1 FU 0 0).bind fun x10 =>
  some x10

def X6_longestWire_L5 (S : St) (v1 : Int32) (v2 : Int32) : Nat → Int32 → Int32 → Option (Int32)
  | 0, _, _ => none
  | n + 1, v3, v4 =>
    if (rI S 2 0) ≤ v4 then
    some v3
    else
    (if ((v2 >>> (v4 &&& 31)) &&& 1) = 0 then
      some v3
      else
      (X6_between S v4 v1).bind fun x7 =>
        some (if v3 < x7 then x7 else v3)).bind fun x3 =>
      X6_longestWire_L5 S v1 v2 n x3 (v4 + 1)
def X6_longestWire (S : St) (a1 : Int32) (a2 : Int32) : Option (Int32) :=
  (X6_longestWire_L5 S a1 a2 FU 0 0).bind fun x8 =>
  some x8

def X6_costOfHolding_L6 (S : St) (v1 : Int32) (v2 : Int32) (v3 : Int32) : Nat → Int32 → Int32 → Option (Int32)
  | 0, _, _ => none
  | n + 1, v4, v5 =>
    if (rI S 2 0) ≤ v5 then
    some v4
    else
    (if ((v2 >>> (v5 &&& 31)) &&& 1) = 0 then
      some v4
      else
      (X6_between S v5 v1).bind fun x7 =>
        some (v4 + (v3 - x7))).bind fun x3 =>
      X6_costOfHolding_L6 S v1 v2 v3 n x3 (v5 + 1)
def X6_costOfHolding (S : St) (a1 : Int32) (a2 : Int32) (a3 : Int32) : Option (Int32) :=
  (X6_costOfHolding_L6 S a1 a2 a3 FU 0 0).bind fun x8 =>
  some x8

def X6_leastBeat_L8 (S : St) (v1 : Int32) : Nat → Int32 → Int32 → Option (Int32)
  | 0, _, _ => none
  | n + 1, v2, v3 =>
    if (rI S 2 0) ≤ v3 then
    some v2
    else
    (if ((v1 >>> (v3 &&& 31)) &&& 1) = 0 then
      some v2
      else
      (X6_value S v3 5).bind fun x9 =>
        some (if x9 < v2 then x9 else v2)).bind fun x5 =>
      X6_leastBeat_L8 S v1 n x5 (v3 + 1)
def X6_leastBeat (S : St) (a1 : Int32) : Option (Int32) :=
  (ldT MOSTV 5).bind fun x1 =>
  (X6_leastBeat_L8 S a1 FU x1 0).bind fun x10 =>
  some x10

def X6_losesWord (S : St) (a1 : Int32) (a2 : Int32) (a3 : Int32) : Option (Int32) :=
  (ldA S 5 (((a1 - 1) * 8) + a2)).bind fun x1 =>
  if ((x1 >>> (a3 &&& 31)) &&& 1) = 0 then
  some 0
  else
  some 1

def X6_loseWord (S : St) (a1 : Int32) (a2 : Int32) (a3 : Int32) (a4 : Int32) : Option (Int32 × St) :=
  (X6_losesWord S a1 a2 a3).bind fun x2 =>
  (if x2 = 0 then
  some (0 : Int32)
  else
  some (1 : Int32)).bind fun x4 =>
  (if a4 = 0 then
  (ldA S 5 (((a1 - 1) * 8) + a2)).bind fun x13 =>
    some (x13 &&& ((1 <<< (a3 &&& 31)) ^^^ (-1)))
  else
  (ldA S 5 (((a1 - 1) * 8) + a2)).bind fun x15 =>
    some (x15 ||| (1 <<< (a3 &&& 31)))).bind fun x8 =>
  (stA S 5 (((a1 - 1) * 8) + a2) x8).bind fun S11 =>
  some (x4, S11)

def X7_refusal (S : St) (a0 : Nat) (a1 : Int32) : Option (Int32) :=
  (ckO S a0 7).bind fun _ =>
  if (rI S a0 0) = (-1) then
  some (-11)
  else
  (ckO S a0 7).bind fun _ =>
    if (rI S a0 0) = a1 then
    some 0
    else
    some (-12)

def X7_holds (S : St) (a0 : Nat) (a1 : Int32) (a2 : Int32) : Option (Int32) :=
  if a1 < 0 then
  some 0
  else
  if a2 < 0 then
    some 0
    else
    (ckO S a0 7).bind fun _ =>
      if (rI S a0 1) < a2 then
      some 0
      else
      (ckO S a0 7).bind fun _ =>
        if ((rI S a0 1) - a2) < a1 then
        some 0
        else
        some 1

def X7_renew (S : St) (a0 : Nat) (a1 : Int32) (a2 : Int32) : Option (Int32 × St) :=
  (ckO S a0 7).bind fun _ =>
  (stF S a0 0 a1).bind fun S2 =>
  (ckO S2 a0 7).bind fun _ =>
  (stF S2 a0 1 a2).bind fun S5 =>
  (ckO S5 a0 7).bind fun _ =>
  (J7_fill_53178 S5 (a0 + 1) 0).bind fun S9 =>
  some (a2, S9)

def X7_empty (S : St) (a0 : Nat) : Option (Int32 × St) :=
  (ckO S a0 7).bind fun _ =>
  (stF S a0 0 (-1)).bind fun S2 =>
  (ckO S2 a0 7).bind fun _ =>
  some ((rI S2 a0 1), S2)

def X7_put (S : St) (a0 : Nat) (a1 : Int32) (a2 : Int32) : Option (Int32 × St) :=
  (ckO S a0 7).bind fun _ =>
  (ckO S a0 7).bind fun _ =>
  (if (rI S a0 0) = 0 then
  some ((a2 : Int32).toInt8.toInt32)
  else
  (ckO S a0 7).bind fun _ =>
    if (rI S a0 0) = 1 then
    some ((a2 : Int32).toInt16.toInt32)
    else
    some a2).bind fun x4 =>
  (stA S (a0 + 1) a1 x4).bind fun S7 =>
  some (1, S7)

def X8_canStand_L2 (S : St) (v0 : Int64) (v2 : Int32) : Nat → Int32 → Option ((Unit) ⊕ (Int32))
  | 0, _ => none
  | n + 1, v3 =>
    if v2 ≤ v3 then
    some (.inl ())
    else
    if (((v0 >>> (((8 * v3) : Int32).toInt64 &&& 63)) : Int64).toInt32 &&& 255) < 32 then
      some (.inr 0)
      else
      if (((v0 >>> (((8 * v3) : Int32).toInt64 &&& 63)) : Int64).toInt32 &&& 255) ≤ 126 then
        X8_canStand_L2 S v0 v2 n (v3 + 1)
        else
        some (.inr 0)
def X8_canStand (S : St) (a0 : Int64) (a2 : Int32) : Option (Int32) :=
  (X8_canStand_L2 S a0 a2 FU 0).bind fun t => match t with
  | .inr x6 => some x6
  | .inl _ =>
  some 1

def X8_append_L5 (v1 : Int64) : Nat → Int32 → St → Option (St)
  | 0, _, _ => none
  | n + 1, v4, S =>
    if v4 < 0 then
    some S
    else
    (stB S 14 (rI S 11 0) ((((v1 >>> (((8 * v4) : Int32).toInt64 &&& 63)) : Int64).toInt32 : Int32).toInt8.toInt32)).bind fun S2 =>
      (stF S2 11 0 ((rI S2 11 0) + 1)).bind fun S4 =>
      X8_append_L5 v1 n (v4 + (-1)) S4
def X8_append (S : St) (a1 : Int64) (a3 : Int32) : Option (Int32 × St) :=
  (X8_append_L5 a1 FU (a3 - 1) S).bind fun S6 =>
  some ((rI S6 11 0), S6)

def X8_peek_L0 : Nat → St → Option (St)
  | 0, _ => none
  | n + 1, S =>
    if (rI S 11 0) ≤ (rI S 11 3) then
    some S
    else
    (ldB S 14 (rI S 11 3)).bind fun x2 =>
      if x2 = 32 then
      (stF S 11 3 ((rI S 11 3) + 1)).bind fun S5 =>
        X8_peek_L0  n S5
      else
      some S
def X8_peek (S : St) : Option (Int32 × St) :=
  (X8_peek_L0  FU  S).bind fun S7 =>
  if (rI S7 11 0) ≤ (rI S7 11 3) then
  some ((-1), S7)
  else
  (ldB S7 14 (rI S7 11 3)).bind fun x10 =>
    some (x10, S7)

def X8_readSound (S : St) (a1 : Int32) : Option (Int32 × St) :=
  (X8_peek S ).bind fun (x2, S3) =>
  if x2 = 45 then
  (stF S3 11 3 ((rI S3 11 3) + 1)).bind fun S5 =>
    (X8_peek S5 ).bind fun (x8, S9) =>
    (if x8 < 49 then
    some ((1 : Int32), S9)
    else
    if 57 < x8 then
      some ((1 : Int32), S9)
      else
      (stF S9 11 3 ((rI S9 11 3) + 1)).bind fun S41 =>
        some ((x8 - 48), S41)).bind fun (x11, S12) =>
    if a1 = 40 then
    (stF S12 11 3 (rI S3 11 3)).bind fun S16 =>
      some (0, S16)
    else
    if ((rI S12 12 0) + x11) ≤ 64 then
      (X8_peek S12 ).bind fun (x20, S21) =>
        (if x20 = 46 then
        some (1 : Int32)
        else
        some (0 : Int32)).bind fun x23 =>
        (if x23 = 0 then
        some S21
        else
        (stF S21 11 3 ((rI S21 11 3) + 1)).bind fun S36 =>
          some S36).bind fun S27 =>
        (if x2 = 45 then
        some (0 : Int32)
        else
        some ((x2 - 97) + 1)).bind fun x31 =>
        (X5_append S27 x31 x11 x23).bind fun S35 =>
        some (1, S35)
      else
      (stF S12 11 3 (rI S3 11 3)).bind fun S38 =>
        some (0, S38)
  else
  if x2 < 97 then
    some (0, S3)
    else
    if x2 ≤ 103 then
      (stF S3 11 3 ((rI S3 11 3) + 1)).bind fun S45 =>
        (X8_peek S45 ).bind fun (x48, S49) =>
        (if x48 < 49 then
        some ((1 : Int32), S49)
        else
        if 57 < x48 then
          some ((1 : Int32), S49)
          else
          (stF S49 11 3 ((rI S49 11 3) + 1)).bind fun S81 =>
            some ((x48 - 48), S81)).bind fun (x51, S52) =>
        if a1 = 40 then
        (stF S52 11 3 (rI S3 11 3)).bind fun S56 =>
          some (0, S56)
        else
        if ((rI S52 12 0) + x51) ≤ 64 then
          (X8_peek S52 ).bind fun (x60, S61) =>
            (if x60 = 46 then
            some (1 : Int32)
            else
            some (0 : Int32)).bind fun x63 =>
            (if x63 = 0 then
            some S61
            else
            (stF S61 11 3 ((rI S61 11 3) + 1)).bind fun S76 =>
              some S76).bind fun S67 =>
            (if x2 = 45 then
            some (0 : Int32)
            else
            some ((x2 - 97) + 1)).bind fun x71 =>
            (X5_append S67 x71 x51 x63).bind fun S75 =>
            some (1, S75)
          else
          (stF S52 11 3 (rI S3 11 3)).bind fun S78 =>
            some (0, S78)
      else
      some (0, S3)

def X8_read_L15 : Nat → Int32 → St → Option ((St) ⊕ (Int32 × St))
  | 0, _, _ => none
  | n + 1, v1, S =>
    if 40 < v1 then
    some (.inl S)
    else
    if v1 ≤ 0 then
      (X8_readSound S v1).bind fun (x8, S9) =>
        if x8 = 0 then
        some (.inl S9)
        else
        X8_read_L15  n (v1 + 1) S9
      else
      (X8_peek S ).bind fun (x12, S13) =>
        if x12 = (-1) then
        some (.inr ((rI S13 12 0), S13))
        else
        (X8_readSound S13 v1).bind fun (x16, S17) =>
          if x16 = 0 then
          some (.inl S17)
          else
          X8_read_L15  n (v1 + 1) S17
def X8_read (S : St) : Option (Int32 × St) :=
  (stF S 12 0 0).bind fun S1 =>
  (stF S1 11 3 0).bind fun S3 =>
  (X8_read_L15  FU 0 S3).bind fun t => match t with
  | .inr (x22, S23) => some (x22, S23)
  | .inl S19 =>
  some (((-20) - (rI S19 11 3)), S19)

def X9_toldTo_L6 (S : St) (v2 : Int32) (v3 : Int32) : Nat → Int32 → Int32 → Option (Int32)
  | 0, _, _ => none
  | n + 1, v4, v5 =>
    if (rI S 2 0) ≤ v5 then
    some v4
    else
    (X6_isCut S v2).bind fun x3 =>
      if x3 = 0 then
      (X6_between S v5 v2).bind fun x6 =>
        (if x6 ≤ 0 then
        some (0 : Int32)
        else
        (X6_losesWord S v3 v5 v2).bind fun x21 =>
          if x21 = 0 then
          some (1 : Int32)
          else
          some (0 : Int32)).bind fun x8 =>
        (if x8 = 0 then
        some v4
        else
        (X6_isCut S v5).bind fun x16 =>
          if x16 = 0 then
          (ldA S (rR S 32 1) v5).bind fun x18 =>
            some (v4 ||| x18)
          else
          some v4).bind fun x12 =>
        X9_toldTo_L6 S v2 v3 n x12 (v5 + 1)
      else
      some v4
def X9_toldTo (S : St) (a2 : Int32) (a3 : Int32) : Option (Int32) :=
  (X9_toldTo_L6 S a2 a3 FU 0 0).bind fun x23 =>
  some x23

def X9_tellFor_L2 (v2 : Int32) : Nat → Int32 → St → Option (St)
  | 0, _, _ => none
  | n + 1, v3, S =>
    if (rI S 2 0) ≤ v3 then
    some S
    else
    (stA S (rR S 32 0) v3 (1 <<< (v3 &&& 31))).bind fun S2 =>
      X9_tellFor_L2 v2 n (v3 + 1) S2
def X9_tellFor_L55 (v2 : Int32) (v3 : Int32) : Nat → Int32 → St → Option (St)
  | 0, _, _ => none
  | n + 1, v5, S =>
    if (rI S 2 0) ≤ v5 then
    some S
    else
    (ldA S (rR S 32 1) v5).bind fun x12 =>
      (X9_toldTo S v5 v3).bind fun x15 =>
      (stA S (rR S 32 0) v5 (x12 ||| x15)).bind fun S16 =>
      X9_tellFor_L55 v2 v3 n (v5 + 1) S16
def X9_tellFor_L27 (v2 : Int32) : Nat → Int32 → St → Option (St)
  | 0, _, _ => none
  | n + 1, v3, S =>
    if v2 < v3 then
    some S
    else
    (stR S 32 1 (rR S 32 0)).bind fun S7 =>
      (stR S7 32 0 (rR S 32 1)).bind fun S9 =>
      (X9_tellFor_L55 v2 v3 FU 0 S9).bind fun S18 =>
      X9_tellFor_L27 v2 n (v3 + 1) S18
def X9_tellFor (S : St) (a2 : Int32) : Option (St) :=
  (X9_tellFor_L2 a2 FU 0 S).bind fun S4 =>
  (X9_tellFor_L27 a2 FU 1 S4).bind fun S21 =>
  some S21

def X9_knownTo (S : St) (a1 : Int32) : Option (Int32) :=
  (ldA S (rR S 32 0) a1).bind fun x1 =>
  some x1

def X10_room (S : St) (a1 : Int32) : Option (Int32 × St) :=
  if a1 < 0 then
  some ((-1), S)
  else
  if a1 ≤ 5 then
    if (rI S 2 0) = 8 then
      some ((-3), S)
      else
      (X6_add S a1).bind fun (x5, S6) =>
        some (x5, S6)
    else
    some ((-1), S)

def X10_set (S : St) (a1 : Int32) (a2 : Int32) (a3 : Int32) : Option (Int32 × St) :=
  (X6_has S a1).bind fun x2 =>
  if x2 = 0 then
  some ((-1), S)
  else
  if a2 < 0 then
    some ((-1), S)
    else
    if 6 ≤ a2 then
      some ((-1), S)
      else
      if a3 < 0 then
        some ((-1), S)
        else
        (ldT MOSTV a2).bind fun x7 =>
          if a3 ≤ x7 then
          (X6_change S a1 a2 a3).bind fun (x11, S12) =>
            some (x11, S12)
          else
          some ((-1), S)

def X10_wire (S : St) (a1 : Int32) (a2 : Int32) (a3 : Int32) : Option (Int32 × St) :=
  (X6_hasTwo S a1 a2).bind fun x2 =>
  if x2 = 0 then
  some ((-1), S)
  else
  if a3 < 0 then
    some ((-1), S)
    else
    if a3 ≤ 400 then
      (X6_lay S a1 a2 a3).bind fun (x7, S8) =>
        some (x7, S8)
      else
      some ((-1), S)

def X10_isSheet (S : St) (a0 : Int32) : Option (Int32) :=
  if a0 < 0 then
  some 0
  else
  if 4 ≤ a0 then
    some 0
    else
    some 1

def X10_isLane (S : St) (a0 : Int32) : Option (Int32) :=
  if a0 < 0 then
  some 0
  else
  if 2 < a0 then
    some 0
    else
    some 1

def X10_wires (S : St) (a1 : Int32) (a2 : Int32) (a3 : Int32) (a4 : Int32) : Option (Int32 × St) :=
  (X6_has S a1).bind fun x2 =>
  if x2 = 0 then
  some ((-1), S)
  else
  (X10_isSheet S a2).bind fun x5 =>
    if x5 = 0 then
    some ((-1), S)
    else
    (X10_isLane S a3).bind fun x8 =>
      if x8 = 0 then
      some ((-1), S)
      else
      (ldS a2).bind fun y10 =>
        (ckO S y10 7).bind fun _ =>
        (X7_refusal S y10 a3).bind fun x14 =>
        if x14 = 0 then
        (ckO S y10 7).bind fun _ =>
          (X7_holds S y10 a4 (rI S 2 0)).bind fun x18 =>
          if x18 = 0 then
          some ((-13), S)
          else
          (X6_canLayAll S y10 a1 a4).bind fun x21 =>
            if x21 = 0 then
            some ((-2), S)
            else
            (X6_layAll S y10 a1 a4).bind fun (x24, S25) =>
              some (x24, S25)
        else
        some (x14, S)

def X10_pace (S : St) (a1 : Int32) : Option (Int32 × St) :=
  if a1 < 1 then
  some ((-1), S)
  else
  if a1 ≤ 2000 then
    (stF S 2 1 a1).bind fun S3 =>
      some ((rI S 2 1), S3)
    else
    some ((-1), S)

def X10_time (S : St) (a1 : Int32) (a2 : Int32) : Option (Int32 × St) :=
  (X6_has S a1).bind fun x2 =>
  if x2 = 0 then
  some ((-1000001), S)
  else
  if a2 < 0 then
    some ((-1000001), S)
    else
    if a2 ≤ 40 then
      (X6_sings S a1).bind fun x7 =>
        if x7 = 0 then
        some ((-1000004), S)
        else
        (X0_listen S ).bind fun S10 =>
          (X0_singTo S10 a2).bind fun S12 =>
          (X0_timeOf S12 a1).bind fun x14 =>
          some (x14, S12)
      else
      some ((-1000001), S)

def X10_paceAt (S : St) (a1 : Int32) : Option (Int32 × St) :=
  if a1 < 1 then
  some ((-1), S)
  else
  if a1 ≤ 40 then
    (X6_singers S ).bind fun x4 =>
      if x4 = 0 then
      some ((-4), S)
      else
      (X0_listen S ).bind fun S7 =>
        (X0_singTo S7 a1).bind fun S9 =>
        (X0_meanPace S9 ).bind fun x11 =>
        some (x11, S9)
    else
    some ((-1), S)

def X10_slows_L55 (v1 : Int32) (v2 : Int32) : Nat → Int32 → St → Option ((St) ⊕ (Int32 × St))
  | 0, _, _ => none
  | n + 1, v3, S =>
    if 400 < v3 then
    some (.inl S)
    else
    (X0_stretchWires S v3).bind fun S12 =>
      (X0_singTo S12 v1).bind fun S14 =>
      (X0_meanPace S14 ).bind fun x16 =>
      if x16 ≤ v2 then
      X10_slows_L55 v1 v2 n (v3 + 1) S14
      else
      some (.inr (v3, S14))
def X10_slows (S : St) (a1 : Int32) (a2 : Int32) : Option (Int32 × St) :=
  if a1 < 1 then
  some ((-1), S)
  else
  if 40 < a1 then
    some ((-1), S)
    else
    if a2 < 0 then
      some ((-1), S)
      else
      if a2 ≤ 99999 then
        (X6_singers S ).bind fun x6 =>
          if x6 = 0 then
          some ((-4), S)
          else
          (X0_listen S ).bind fun S9 =>
            (X10_slows_L55 a1 a2 FU 1 S9).bind fun t => match t with
            | .inr (x21, S22) => some (x21, S22)
            | .inl S18 =>
            some ((-4), S18)
        else
        some ((-1), S)

def X10_apart (S : St) (a1 : Int32) : Option (Int32 × St) :=
  if a1 < 0 then
  some ((-1), S)
  else
  if a1 ≤ 40 then
    (X6_singers S ).bind fun x4 =>
      if x4 = 0 then
      some ((-4), S)
      else
      (X0_listen S ).bind fun S7 =>
        (X0_singTo S7 a1).bind fun S9 =>
        (X0_spread S9 ).bind fun x11 =>
        some (x11, S9)
    else
    some ((-1), S)

def X10_count (S : St) (a1 : Int32) : Option (Int32) :=
  if a1 = 0 then
  some (rI S 2 0)
  else if a1 = 1 then
  (X6_singers S ).bind fun x4 =>
    (J6_bitCount_0f7a4 S x4).bind fun x6 =>
    some x6
  else if a1 = 2 then
  (X6_wiresInAll S ).bind fun x9 =>
    some x9
  else if a1 = 3 then
  some (rI S 6 0)
  else if a1 = 4 then
  (X5_breaths S ).bind fun x13 =>
    some x13
  else if a1 = 5 then
  some (rI S 8 0)
  else 
  some (-1)

def X10_hold (S : St) (a1 : Int32) (a2 : Int32) : Option (Int32) :=
  (X6_has S a1).bind fun x2 =>
  if x2 = 0 then
  some (-1)
  else
  if a2 < 0 then
    some (-1)
    else
    if a2 ≤ 1 then
      (X6_singers S ).bind fun x7 =>
        (X6_isCut S a1).bind fun x9 =>
        if x9 = 0 then
        (X6_reachedByAll S a1 (x7 &&& ((1 <<< (a1 &&& 31)) ^^^ (-1)))).bind fun x12 =>
          if x12 = 0 then
          some (-4)
          else
          (X6_longestWire S a1 (x7 &&& ((1 <<< (a1 &&& 31)) ^^^ (-1)))).bind fun x15 =>
            if a2 = 0 then
            some x15
            else
            (X6_costOfHolding S a1 (x7 &&& ((1 <<< (a1 &&& 31)) ^^^ (-1))) x15).bind fun x18 =>
              some x18
        else
        some (-4)
      else
      some (-1)

def X10_together (S : St) (a1 : Int32) (a2 : Int32) : Option (Int32 × St) :=
  if a1 = 0 then
  some ((-1), S)
  else
  (X6_all S ).bind fun x3 =>
    if (a1 &&& (x3 ^^^ (-1))) = 0 then
    if a2 = 8 then
      (X2_firstFailing S a1).bind fun (x20, S21) =>
        some (x20, S21)
      else
      (X6_has S a2).bind fun x7 =>
        if x7 = 0 then
        some ((-1), S)
        else
        (X6_sings S a2).bind fun x10 =>
          if x10 = 0 then
          some ((-2), S)
          else
          if ((a1 >>> (a2 &&& 31)) &&& 1) = 0 then
            (X2_firstFailing S a1).bind fun (x14, S15) =>
              if x14 = (-4) then
              (X2_leadOf S15 a2).bind fun x18 =>
                some (x18, S15)
              else
              some ((-4), S15)
            else
            some ((-2), S)
    else
    some ((-1), S)

def X10_type (S : St) (a1 : Int64) (a3 : Int32) : Option (Int32 × St) :=
  if a3 < 1 then
  some ((-1), S)
  else
  if 8 < a3 then
    some ((-1), S)
    else
    (X8_canStand S a1 a3).bind fun x4 =>
      if x4 = 0 then
      some ((-1), S)
      else
      if ((rI S 11 0) + a3) ≤ 120 then
        (X8_append S a1 a3).bind fun (x8, S9) =>
          some (x8, S9)
        else
        some ((-3), S)

def X10_piece (S : St) : Option (Int32 × St) :=
  (X8_read S ).bind fun (x2, S3) =>
  (if x2 ≤ 0 then
  some S3
  else
  (X5_take S3 6 12).bind fun S11 =>
    some S11).bind fun S5 =>
  (stF S5 11 0 0).bind fun S8 =>
  some (x2, S8)

def X10_sound (S : St) (a1 : Int32) : Option (Int32) :=
  if a1 < 0 then
  some (-1)
  else
  if a1 < (rI S 6 0) then
    (ldA S 7 a1).bind fun x3 =>
      some x3
    else
    some (-1)

def X10_fit (S : St) (a1 : Int32) : Option (Int32 × St) :=
  if a1 < 0 then
  some ((-1), S)
  else
  if a1 ≤ 127 then
    (stF S 1 3 a1).bind fun S3 =>
      some ((rI S 1 3), S3)
    else
    some ((-1), S)

def X10_clashes (S : St) (a1 : Int32) : Option (Int32) :=
  if a1 < 1 then
  some (-1)
  else
  if a1 < (rI S 6 0) then
    (X5_clashesAt S a1 (rI S 1 3)).bind fun x4 =>
      some x4
    else
    some (-1)

def X10_canon_L10 (S : St) (v1 : Int32) : Nat → Int32 → Int32 → Option ((Unit) ⊕ (Int32))
  | 0, _, _ => none
  | n + 1, v2, v3 =>
    if (rI S 6 0) ≤ v3 then
    some (.inl ())
    else
    (X5_clashesAt S v3 (rI S 1 3)).bind fun x4 =>
      if x4 = 0 then
      if v2 = v1 then
        some (.inr v3)
        else
        X10_canon_L10 S v1 n (v2 + 1) (v3 + 1)
      else
      X10_canon_L10 S v1 n v2 (v3 + 1)
def X10_canon (S : St) (a1 : Int32) : Option (Int32) :=
  if 0 ≤ a1 then
  (X10_canon_L10 S a1 FU 0 1).bind fun t => match t with
    | .inr x9 => some x9
    | .inl _ =>
    some (-4)
  else
  some (-1)

def X10_sea (S : St) (a1 : Int32) (a2 : Int32) : Option (Int32) :=
  if a1 < 1 then
  some (-1)
  else
  if 63 < a1 then
    some (-1)
    else
    if a2 < 1 then
      some (-1)
      else
      if a2 ≤ 40000 then
        (rmO a2 a1).bind fun x5 =>
          if x5 = 0 then
          (dvO a2 a1).bind fun x8 =>
            if x8 ≤ 2000 then
            (dvO a2 a1).bind fun x11 =>
              some x11
            else
            some (-4)
          else
          some (-4)
        else
        some (-1)

def X10_lose (S : St) (a1 : Int32) (a2 : Int32) (a3 : Int32) (a4 : Int32) : Option (Int32 × St) :=
  if a1 < 1 then
  some ((-1), S)
  else
  if 7 < a1 then
    some ((-1), S)
    else
    (X6_hasTwo S a2 a3).bind fun x4 =>
      if x4 = 0 then
      some ((-1), S)
      else
      (X6_loseWord S a1 a2 a3 a4).bind fun (x7, S8) =>
        some (x7, S8)

def X10_goes (S : St) (a1 : Int32) (a2 : Int32) : Option (Int32 × St) :=
  (X6_has S a1).bind fun x2 =>
  if x2 = 0 then
  some ((-1), S)
  else
  if a2 < 0 then
    some ((-1), S)
    else
    if a2 ≤ 7 then
      (X6_uncut S ).bind fun x7 =>
        (X9_tellFor S a2).bind fun S9 =>
        (X6_isCut S9 a1).bind fun x11 =>
        if x11 = 0 then
        (X9_knownTo S9 a1).bind fun x14 =>
          if (x7 &&& (x14 ^^^ (-1))) = 0 then
          (X6_leastBeat S9 x7).bind fun x17 =>
            (X5_behindLastBreath S9 x17).bind fun x19 =>
            some (x19, S9)
          else
          some ((-4), S9)
        else
        some ((-4), S9)
      else
      some ((-1), S)

def X10_knows (S : St) (a1 : Int32) (a2 : Int32) : Option (Int32 × St) :=
  (X6_has S a1).bind fun x2 =>
  if x2 = 0 then
  some ((-1), S)
  else
  if a2 < 0 then
    some ((-1), S)
    else
    if a2 ≤ 7 then
      (X9_tellFor S a2).bind fun S7 =>
        (X9_knownTo S7 a1).bind fun x9 =>
        some (x9, S7)
      else
      some ((-1), S)

def X10_loss (S : St) (a1 : Int64) : Option (Int32 × St) :=
  if (lg_cmp (a1 &&& (-281474976710656)) 0) = 0 then
  if (rI S 8 0) = 8 then
    some ((-3), S)
    else
    (X3_add S a1).bind fun (x4, S5) =>
      some (x4, S5)
  else
  some ((-1), S)

def X10_lost (S : St) (a1 : Int32) (a2 : Int32) : Option (Int32) :=
  if a1 < 0 then
  some (-1)
  else
  if (rI S 8 0) ≤ a1 then
    some (-1)
    else
    if a2 < 1 then
      some (-1)
      else
      if a2 ≤ 12 then
        (X3_lostOf S a1 a2).bind fun x6 =>
          some x6
        else
        some (-1)

def X10_group_L3 (S : St) : Nat → Int32 → Option ((Unit) ⊕ (Int32))
  | 0, _ => none
  | n + 1, v1 =>
    if v1 < 1 then
    some (.inl ())
    else
    (X3_losesNothing S v1).bind fun x3 =>
      if x3 = 0 then
      X10_group_L3 S  n (v1 + (-1))
      else
      some (.inr v1)
def X10_group (S : St) : Option (Int32) :=
  (X10_group_L3 S  FU 12).bind fun t => match t with
  | .inr x7 => some x7
  | .inl _ =>
  some (-4)

def X10_clear (S : St) : Option (Int32 × St) :=
  (stF S 8 0 0).bind fun S1 =>
  some ((rI S 8 0), S1)

def X10_most (S : St) (a1 : Int32) : Option (Int32 × St) :=
  if a1 < 1 then
  some ((-1), S)
  else
  if a1 ≤ 7 then
    (stF S 2 2 a1).bind fun S3 =>
      some ((rI S 2 2), S3)
    else
    some ((-1), S)

def X10_net (S : St) : Option (Int32 × St) :=
  (X6_uncut S ).bind fun x2 =>
  (J6_bitCount_0f7a4 S x2).bind fun x4 =>
  if x4 < 2 then
  some ((-2), S)
  else
  if x4 ≤ 6 then
    (X4_leastWait S ).bind fun (x8, S9) =>
      some (x8, S9)
    else
    some ((-2), S)

def X10_sheet (S : St) (a1 : Int32) (a2 : Int32) (a3 : Int32) : Option (Int32 × St) :=
  (X10_isSheet S a1).bind fun x2 =>
  if x2 = 0 then
  some ((-1), S)
  else
  (X10_isLane S a2).bind fun x5 =>
    if x5 = 0 then
    some ((-1), S)
    else
    if a3 ≤ 40 then
      if 0 ≤ a3 then
        (ldS a1).bind fun y9 =>
          (ckO S y9 7).bind fun _ =>
          (X7_renew S y9 a2 a3).bind fun (x13, S14) =>
          some (x13, S14)
        else
        some ((-14), S)
      else
      some ((-1), S)

def X10_drop (S : St) (a1 : Int32) : Option (Int32 × St) :=
  (X10_isSheet S a1).bind fun x2 =>
  if x2 = 0 then
  some ((-1), S)
  else
  (ldS a1).bind fun y4 =>
    (ckO S y4 7).bind fun _ =>
    if (rI S y4 0) = (-1) then
    some ((-11), S)
    else
    (ldS a1).bind fun y8 =>
      (ckO S y8 7).bind fun _ =>
      (X7_empty S y8).bind fun (x12, S13) =>
      some (x12, S13)

def X10_item (S : St) (a1 : Int32) (a2 : Int32) (a3 : Int32) (a4 : Int32) : Option (Int32 × St) :=
  (X10_isSheet S a1).bind fun x2 =>
  if x2 = 0 then
  some ((-1), S)
  else
  (X10_isLane S a2).bind fun x5 =>
    if x5 = 0 then
    some ((-1), S)
    else
    (ldS a1).bind fun y7 =>
      (ckO S y7 7).bind fun _ =>
      (X7_refusal S y7 a2).bind fun x11 =>
      if x11 = 0 then
      (ldS a1).bind fun y13 =>
        (ckO S y13 7).bind fun _ =>
        (X7_holds S y13 a3 1).bind fun x17 =>
        if x17 = 0 then
        some ((-13), S)
        else
        (ldS a1).bind fun y19 =>
          (ckO S y19 7).bind fun _ =>
          (X7_put S y19 a3 a4).bind fun (x23, S24) =>
          some (x23, S24)
      else
      some (x11, S)

def X10_copy (S : St) (a1 : Int32) (a2 : Int32) (a3 : Int32) (a4 : Int32) (a5 : Int32) : Option (Int32 × St) :=
  (X10_isSheet S a1).bind fun x2 =>
  if x2 = 0 then
  some ((-1), S)
  else
  (X10_isSheet S a3).bind fun x5 =>
    if x5 = 0 then
    some ((-1), S)
    else
    (ldS a1).bind fun y7 =>
      (ckO S y7 7).bind fun _ =>
      if (rI S y7 0) = (-1) then
      some ((-11), S)
      else
      (ldS a3).bind fun y11 =>
        (ckO S y7 7).bind fun _ =>
        (ckO S y11 7).bind fun _ =>
        (X7_refusal S y11 (rI S y7 0)).bind fun x16 =>
        if x16 = 0 then
        (ckO S y7 7).bind fun _ =>
          (X7_holds S y7 a2 a5).bind fun x20 =>
          if x20 = 0 then
          some ((-13), S)
          else
          (ldS a3).bind fun y22 =>
            (ckO S y22 7).bind fun _ =>
            (X7_holds S y22 a4 a5).bind fun x26 =>
            if x26 = 0 then
            some ((-13), S)
            else
            (ckO S y7 7).bind fun _ =>
              (ldS a3).bind fun y29 =>
              (ckO S y29 7).bind fun _ =>
              (cpI S (y7 + 1) a2 (y29 + 1) a4 a5).bind fun S32 =>
              some (a5, S32)
        else
        some (x16, S)

def X11_in (S : St) (a0 : Int64) (a2 : Int64) (a4 : Int64) : Option (Int32) :=
  if (lg_cmp a0 a2) < 0 then
  some 0
  else
  if 0 < (lg_cmp a0 a4) then
    some 0
    else
    some 1

def X11_rooms (S : St) : Option (Int32) :=
  (ldA S 61 0).bind fun x1 =>
  some x1

def X11_isRoom (S : St) (a1 : Int32) : Option (Int32) :=
  (ldA S 61 0).bind fun x1 =>
  (X11_in S ((a1 : Int32).toInt64) 0 (((x1 - 1) : Int32).toInt64)).bind fun x4 =>
  some x4

def X11_of (S : St) (a1 : Int32) (a2 : Int32) : Option (Int32) :=
  (ldA S 61 ((8 + (6 * a1)) + a2)).bind fun x1 =>
  some x1

def X11_wireOf (S : St) (a1 : Int32) (a2 : Int32) : Option (Int32) :=
  (ldA S 61 ((64 + (8 * a1)) + a2)).bind fun x1 =>
  some x1

def X11_sings (S : St) (a1 : Int32) : Option (Int32) :=
  (X11_of S a1 0).bind fun x2 =>
  if 4 ≤ x2 then
  some 0
  else
  some 1

def X11_isCut (S : St) (a1 : Int32) : Option (Int32) :=
  (X11_of S a1 0).bind fun x2 =>
  if x2 = 5 then
  some 1
  else
  some 0

def X11_highest (S : St) (a0 : Int32) : Option (Int32) :=
  if a0 = 0 then
  some 5
  else
  if a0 = 1 then
    some 99
    else
    if a0 = 2 then
      some 100
      else
      if a0 = 3 then
        some 999
        else
        if a0 = 4 then
          some 400
          else
          some 63

def X11_room (S : St) (a1 : Int32) : Option (Int32 × St) :=
  (X11_in S ((a1 : Int32).toInt64) 0 5).bind fun x2 =>
  if x2 = 0 then
  some ((-1), S)
  else
  (X11_rooms S ).bind fun x5 =>
    if x5 = 8 then
    some ((-3), S)
    else
    (X11_rooms S ).bind fun x8 =>
      (stA S 61 (8 + (6 * x8)) a1).bind fun S9 =>
      (stA S9 61 ((8 + (6 * x8)) + 1) 10).bind fun S11 =>
      (stA S11 61 ((8 + (6 * x8)) + 2) 50).bind fun S13 =>
      (ldA S13 61 0).bind fun x15 =>
      (stA S13 61 0 (x15 + 1)).bind fun S17 =>
      (X11_rooms S17 ).bind fun x20 =>
      some ((x20 - 1), S17)

def X11_set (S : St) (a1 : Int32) (a2 : Int32) (a3 : Int32) : Option (Int32 × St) :=
  (X11_isRoom S a1).bind fun x2 =>
  if x2 = 0 then
  some ((-1), S)
  else
  (X11_in S ((a2 : Int32).toInt64) 0 5).bind fun x5 =>
    if x5 = 0 then
    some ((-1), S)
    else
    (X11_highest S a2).bind fun x8 =>
      (X11_in S ((a3 : Int32).toInt64) 0 ((x8 : Int32).toInt64)).bind fun x10 =>
      if x10 = 0 then
      some ((-1), S)
      else
      (X11_of S a1 a2).bind fun x13 =>
        (stA S 61 ((8 + (6 * a1)) + a2) a3).bind fun S14 =>
        some (x13, S14)

def X11_wire (S : St) (a1 : Int32) (a2 : Int32) (a3 : Int32) : Option (Int32 × St) :=
  (X11_isRoom S a1).bind fun x2 =>
  if x2 = 0 then
  some ((-1), S)
  else
  (X11_isRoom S a2).bind fun x5 =>
    if x5 = 0 then
    some ((-1), S)
    else
    if a1 = a2 then
      some ((-1), S)
      else
      (X11_in S ((a3 : Int32).toInt64) 0 400).bind fun x9 =>
        if x9 = 0 then
        some ((-1), S)
        else
        (X11_wireOf S a1 a2).bind fun x12 =>
          (stA S 61 ((64 + (8 * a1)) + a2) a3).bind fun S13 =>
          some (x12, S13)

def X11_isSheet (S : St) (a0 : Int32) : Option (Int32) :=
  (X11_in S ((a0 : Int32).toInt64) 0 3).bind fun x2 =>
  some x2

def X11_isLane (S : St) (a0 : Int32) : Option (Int32) :=
  (X11_in S ((a0 : Int32).toInt64) 0 2).bind fun x2 =>
  some x2

def X11_finds (S : St) (a1 : Int32) (a2 : Int32) (a3 : Int32) (a4 : Int32) : Option (Int32) :=
  (ldA S 77 a1).bind fun x1 =>
  if 0 ≤ x1 then
  (ldA S 77 a1).bind fun x4 =>
    if x4 = a2 then
    if a3 < 0 then
      some (-13)
      else
      (ldA S 78 a1).bind fun x8 =>
        if (lg_cmp ((a3 : Int32).toInt64 + (a4 : Int32).toInt64) ((x8 : Int32).toInt64)) ≤ 0 then
        some 0
        else
        some (-13)
    else
    some (-12)
  else
  some (-11)

def X11_wires_L49 (S : St) (v1 : Int32) (v2 : Int32) (v4 : Int32) : Nat → Int32 → Option ((Unit) ⊕ (Int32 × St))
  | 0, _ => none
  | n + 1, v6 =>
    (X11_rooms S ).bind fun x16 =>
    if x16 ≤ v6 then
    some (.inl ())
    else
    (ldA S 79 (((40 * v2) + v4) + v6)).bind fun x18 =>
      (if v6 = v1 then
      some (0 : Int64)
      else
      some (400 : Int64)).bind fun x21 =>
      (X11_in S ((x18 : Int32).toInt64) 0 x21).bind fun x25 =>
      if x25 = 0 then
      some (.inr ((-2), S))
      else
      X11_wires_L49 S v1 v2 v4 n (v6 + 1)
def X11_wires_L109 (v1 : Int32) (v2 : Int32) (v4 : Int32) : Nat → Int32 → Int32 → St → Option (Int32 × St)
  | 0, _, _, _ => none
  | n + 1, v6, v7, S =>
    (X11_rooms S ).bind fun x29 =>
    if x29 ≤ v7 then
    some (v6, S)
    else
    (ldA S 79 (((40 * v2) + v4) + v7)).bind fun x31 =>
      (stA S 61 ((64 + (8 * v1)) + v7) x31).bind fun S33 =>
      (ldA S33 79 (((40 * v2) + v4) + v7)).bind fun x35 =>
      (if x35 ≤ 0 then
      some (0 : Int32)
      else
      some (1 : Int32)).bind fun x38 =>
      X11_wires_L109 v1 v2 v4 n (v6 + x38) (v7 + 1) S33
def X11_wires (S : St) (a1 : Int32) (a2 : Int32) (a3 : Int32) (a4 : Int32) : Option (Int32 × St) :=
  (X11_isRoom S a1).bind fun x2 =>
  if x2 = 0 then
  some ((-1), S)
  else
  (X11_isSheet S a2).bind fun x5 =>
    if x5 = 0 then
    some ((-1), S)
    else
    (X11_isLane S a3).bind fun x8 =>
      if x8 = 0 then
      some ((-1), S)
      else
      (X11_rooms S ).bind fun x11 =>
        (X11_finds S a2 a3 a4 x11).bind fun x13 =>
        if 0 ≤ x13 then
        (X11_wires_L49 S a1 a2 a4 FU 0).bind fun t => match t with
          | .inr (x46, S47) => some (x46, S47)
          | .inl _ =>
          (X11_wires_L109 a1 a2 a4 FU 0 0 S).bind fun (x41, S42) =>
          some (x41, S42)
        else
        some (x13, S)

def X11_pace (S : St) (a1 : Int32) : Option (Int32 × St) :=
  (X11_in S ((a1 : Int32).toInt64) 1 2000).bind fun x2 =>
  if x2 = 0 then
  some ((-1), S)
  else
  (ldA S 61 128).bind fun x4 =>
    (stA S 61 128 a1).bind fun S6 =>
    some (x4, S6)

def X11_pull_L31 (S : St) (v1 : Int32) (v2 : Int32) (v3 : Int32) (v6 : Int32) : Nat → Int32 → Int32 → Int32 → Option (Int32 × Int32)
  | 0, _, _, _ => none
  | n + 1, v4, v5, v7 =>
    (X11_rooms S ).bind fun x8 =>
    if x8 ≤ v7 then
    some (v4, v5)
    else
    (if v7 = v1 then
      some (v4, v5)
      else
      (X11_sings S v7).bind fun x16 =>
        if x16 = 0 then
        some (v4, v5)
        else
        (X11_wireOf S v7 v1).bind fun x19 =>
          if x19 ≤ 0 then
          some (v4, v5)
          else
          (if v3 ≤ 0 then
            (X11_wireOf S v7 v1).bind fun x30 =>
              some x30
            else
            some v3).bind fun x22 =>
            (ldA S 63 ((8 * v2) + v7)).bind fun x25 =>
            (ldA S 63 ((8 * v2) + v1)).bind fun x27 =>
            some ((v4 + 1), (v5 + (((x25 + x22) - v6) - x27)))).bind fun (x11, x12) =>
      X11_pull_L31 S v1 v2 v3 v6 n x11 x12 (v7 + 1)
def X11_pull (S : St) (a1 : Int32) (a2 : Int32) (a3 : Int32) : Option (Int32) :=
  (X11_of S a1 0).bind fun x2 =>
  (if x2 = 3 then
  (X11_of S a1 4).bind fun x39 =>
    some x39
  else
  some (0 : Int32)).bind fun x4 =>
  (X11_pull_L31 S a1 a2 a3 x4 FU 0 0 0).bind fun (x31, x32) =>
  if x31 = 0 then
  some 0
  else
  (dvO x32 x31).bind fun x35 =>
    some x35

def X11_laysBeats_L12 (v1 : Int32) (v2 : Int32) (v3 : Int32) : Nat → Int32 → St → Option (St)
  | 0, _, _ => none
  | n + 1, v4, S =>
    (X11_rooms S ).bind fun x4 =>
    if x4 ≤ v4 then
    some S
    else
    (X11_of S v4 0).bind fun x7 =>
      (if x7 = 2 then
      (X11_of S v4 3).bind fun x15 =>
        some (-x15)
      else
      some (0 : Int32)).bind fun x9 =>
      (stA S 63 v4 x9).bind fun S12 =>
      X11_laysBeats_L12 v1 v2 v3 n (v4 + 1) S12
def X11_laysBeats_L69 (v1 : Int32) (v2 : Int32) (v3 : Int32) (v4 : Int32) : Nat → Int32 → St → Option (St)
  | 0, _, _ => none
  | n + 1, v5, S =>
    (X11_rooms S ).bind fun x20 =>
    if x20 ≤ v5 then
    some S
    else
    (X11_of S v5 0).bind fun x23 =>
      (ldA S 63 ((8 * (v4 - 1)) + v5)).bind fun x24 =>
      (X11_of S v5 1).bind fun x27 =>
      (X11_of S v5 2).bind fun x29 =>
      (X11_pull S v5 (v4 - 1) v2).bind fun x31 =>
      (dvO (x29 * x31) 100).bind fun x32 =>
      (if (((x24 + v3) + x27) + x32) ≤ x24 then
      some (x24 + 1)
      else
      some (((x24 + v3) + x27) + x32)).bind fun x35 =>
      (if x23 = 1 then
      some (v4 * v3)
      else
      if x23 = 2 then
        (X11_of S v5 3).bind fun x46 =>
          some ((v4 * v3) - x46)
        else
        some x35).bind fun x39 =>
      (stA S 63 ((8 * v4) + v5) x39).bind fun S42 =>
      X11_laysBeats_L69 v1 v2 v3 v4 n (v5 + 1) S42
def X11_laysBeats_L60 (v1 : Int32) (v2 : Int32) (v3 : Int32) : Nat → Int32 → St → Option (St)
  | 0, _, _ => none
  | n + 1, v4, S =>
    if v1 < v4 then
    some S
    else
    (X11_laysBeats_L69 v1 v2 v3 v4 FU 0 S).bind fun S47 =>
      X11_laysBeats_L60 v1 v2 v3 n (v4 + 1) S47
def X11_laysBeats (S : St) (a1 : Int32) (a2 : Int32) : Option (St) :=
  (ldA S 61 128).bind fun x1 =>
  (X11_laysBeats_L12 a1 a2 x1 FU 0 S).bind fun S16 =>
  (X11_laysBeats_L60 a1 a2 x1 FU 1 S16).bind fun S50 =>
  some S50

def X11_time (S : St) (a1 : Int32) (a2 : Int32) : Option (Int32 × St) :=
  (X11_isRoom S a1).bind fun x2 =>
  if x2 = 0 then
  some ((-1000001), S)
  else
  (X11_in S ((a2 : Int32).toInt64) 0 40).bind fun x5 =>
    if x5 = 0 then
    some ((-1000001), S)
    else
    (X11_sings S a1).bind fun x8 =>
      if x8 = 0 then
      some ((-1000004), S)
      else
      (X11_laysBeats S a2 0).bind fun S11 =>
        (ldA S11 63 ((8 * a2) + a1)).bind fun x12 =>
        some (x12, S11)

def X11_singers_L4 (S : St) : Nat → Int32 → Int32 → Option (Int32)
  | 0, _, _ => none
  | n + 1, v1, v2 =>
    (X11_rooms S ).bind fun x2 =>
    if x2 ≤ v2 then
    some v1
    else
    (X11_sings S v2).bind fun x5 =>
      (if x5 = 0 then
      some (0 : Int32)
      else
      some ((1 <<< (v2 &&& 31)) : Int32)).bind fun x7 =>
      X11_singers_L4 S  n (v1 ||| x7) (v2 + 1)
def X11_singers (S : St) : Option (Int32) :=
  (X11_singers_L4 S  FU 0 0).bind fun x10 =>
  some x10

def X11_size_L4 (S : St) (v0 : Int32) : Nat → Int32 → Int32 → Option (Int32)
  | 0, _, _ => none
  | n + 1, v1, v2 =>
    if 8 ≤ v2 then
    some v1
    else
    X11_size_L4 S v0 n (v1 + ((v0 >>> (v2 &&& 31)) &&& 1)) (v2 + 1)
def X11_size (S : St) (a0 : Int32) : Option (Int32) :=
  (X11_size_L4 S a0 FU 0 0).bind fun x2 =>
  some x2

def X11_paceBy_L17 (S : St) (v1 : Int32) (v3 : Int32) : Nat → Int32 → Int32 → Option (Int32)
  | 0, _, _ => none
  | n + 1, v4, v5 =>
    (X11_rooms S ).bind fun x6 =>
    if x6 ≤ v5 then
    some v4
    else
    (if ((v3 >>> (v5 &&& 31)) &&& 1) = 1 then
      (ldA S 63 ((8 * v1) + v5)).bind fun x12 =>
        (ldA S 63 ((8 * (v1 - 1)) + v5)).bind fun x14 =>
        some (x12 - x14)
      else
      some (0 : Int32)).bind fun x9 =>
      X11_paceBy_L17 S v1 v3 n (v4 + x9) (v5 + 1)
def X11_paceBy (S : St) (a1 : Int32) (a2 : Int32) : Option (Int32 × St) :=
  (X11_laysBeats S a1 a2).bind fun S2 =>
  (X11_singers S2 ).bind fun x4 =>
  (X11_paceBy_L17 S2 a1 x4 FU 0 0).bind fun x16 =>
  (X11_size S2 x4).bind fun x19 =>
  (dvO x16 x19).bind fun x20 =>
  some (x20, S2)

def X11_paceAt (S : St) (a1 : Int32) : Option (Int32 × St) :=
  (X11_in S ((a1 : Int32).toInt64) 1 40).bind fun x2 =>
  if x2 = 0 then
  some ((-1), S)
  else
  (X11_singers S ).bind fun x5 =>
    if x5 = 0 then
    some ((-4), S)
    else
    (X11_paceBy S a1 0).bind fun (x8, S9) =>
      some (x8, S9)

def X11_slows_L28 (v1 : Int32) (v2 : Int32) : Nat → Int32 → St → Option ((St) ⊕ (Int32 × St))
  | 0, _, _ => none
  | n + 1, v3, S =>
    if 400 < v3 then
    some (.inl S)
    else
    (X11_singers S ).bind fun x9 =>
      if x9 ≤ 0 then
      some (.inl S)
      else
      (X11_paceBy S v1 v3).bind fun (x12, S13) =>
        if x12 ≤ v2 then
        X11_slows_L28 v1 v2 n (v3 + 1) S13
        else
        some (.inr (v3, S13))
def X11_slows (S : St) (a1 : Int32) (a2 : Int32) : Option (Int32 × St) :=
  (X11_in S ((a1 : Int32).toInt64) 1 40).bind fun x2 =>
  if x2 = 0 then
  some ((-1), S)
  else
  (X11_in S ((a2 : Int32).toInt64) 0 99999).bind fun x5 =>
    if x5 = 0 then
    some ((-1), S)
    else
    (X11_slows_L28 a1 a2 FU 1 S).bind fun t => match t with
      | .inr (x18, S19) => some (x18, S19)
      | .inl S15 =>
      some ((-4), S15)

def X11_apart_L43 (S : St) (v1 : Int32) (v2 : Int32) : Nat → Int32 → Int32 → Int32 → Int32 → Option (Int32 × Int32)
  | 0, _, _, _, _ => none
  | n + 1, v3, v4, v5, v6 =>
    (X11_rooms S ).bind fun x10 =>
    if x10 ≤ v6 then
    some (v4, v5)
    else
    (if ((v2 >>> (v6 &&& 31)) &&& 1) = 1 then
      (ldA S 63 ((8 * v1) + v6)).bind fun x18 =>
        (if v3 = 0 then
        some x18
        else
        if v4 ≤ x18 then
          some v4
          else
          some x18).bind fun x21 =>
        (if v3 = 0 then
        some x18
        else
        if x18 ≤ v5 then
          some v5
          else
          some x18).bind fun x25 =>
        some ((v3 + 1), x21, x25)
      else
      some (v3, v4, v5)).bind fun (x13, x14, x15) =>
      X11_apart_L43 S v1 v2 n x13 x14 x15 (v6 + 1)
def X11_apart (S : St) (a1 : Int32) : Option (Int32 × St) :=
  (X11_in S ((a1 : Int32).toInt64) 0 40).bind fun x2 =>
  if x2 = 0 then
  some ((-1), S)
  else
  (X11_singers S ).bind fun x5 =>
    if x5 = 0 then
    some ((-4), S)
    else
    (X11_laysBeats S a1 0).bind fun S8 =>
      (X11_apart_L43 S8 a1 x5 FU 0 0 0 0).bind fun (x30, x31) =>
      some ((x31 - x30), S8)

def X11_count_L5 (S : St) (v1 : Int32) : Nat → Int32 → Int32 → Option (Int32)
  | 0, _, _ => none
  | n + 1, v2, v3 =>
    if 128 ≤ v3 then
    some v2
    else
    (ldA S 61 v3).bind fun x2 =>
      (if x2 ≤ 0 then
      some (0 : Int32)
      else
      some (1 : Int32)).bind fun x5 =>
      X11_count_L5 S v1 n (v2 + x5) (v3 + 1)
def X11_count_L40 (S : St) (v1 : Int32) (v2 : Int32) : Nat → Int32 → Int32 → Option (Int32)
  | 0, _, _ => none
  | n + 1, v3, v4 =>
    (ldA S 61 130).bind fun x10 =>
    if x10 ≤ v4 then
    some v3
    else
    (ldA S 61 (136 + v4)).bind fun x13 =>
      (if x13 < 10 then
      some (0 : Int32)
      else
      some (1 : Int32)).bind fun x16 =>
      X11_count_L40 S v1 v2 n (v3 + x16) (v4 + 1)
def X11_count (S : St) (a1 : Int32) : Option (Int32) :=
  (X11_count_L5 S a1 FU 0 64).bind fun x8 =>
  (X11_count_L40 S a1 x8 FU 0 0).bind fun x19 =>
  if a1 = 0 then
  (X11_rooms S ).bind fun x23 =>
    some x23
  else if a1 = 1 then
  (X11_singers S ).bind fun x26 =>
    (X11_size S x26).bind fun x28 =>
    some x28
  else if a1 = 2 then
  some x8
  else if a1 = 3 then
  (ldA S 61 130).bind fun x31 =>
    some x31
  else if a1 = 4 then
  some x19
  else if a1 = 5 then
  (ldA S 61 132).bind fun x35 =>
    some x35
  else 
  some (-1)

def X11_hold_L42 (S : St) (v1 : Int32) (v2 : Int32) : Nat → Int32 → Int32 → Int32 → Int32 → Option ((Int32 × Int32 × Int32) ⊕ (Int32))
  | 0, _, _, _, _ => none
  | n + 1, v3, v4, v5, v6 =>
    (X11_rooms S ).bind fun x11 =>
    if x11 ≤ v6 then
    some (.inl (v3, v4, v5))
    else
    if v6 = v1 then
      X11_hold_L42 S v1 v2 n v3 v4 v5 (v6 + 1)
      else
      (X11_sings S v6).bind fun x15 =>
        if x15 = 0 then
        X11_hold_L42 S v1 v2 n v3 v4 v5 (v6 + 1)
        else
        (X11_wireOf S v6 v1).bind fun x18 =>
          if x18 = 0 then
          some (.inr (-4))
          else
          (if x18 ≤ v3 then
            some v3
            else
            some x18).bind fun x21 =>
            X11_hold_L42 S v1 v2 n x21 (v4 + x18) (v5 + 1) (v6 + 1)
def X11_hold (S : St) (a1 : Int32) (a2 : Int32) : Option (Int32) :=
  (X11_isRoom S a1).bind fun x2 =>
  if x2 = 0 then
  some (-1)
  else
  (X11_in S ((a2 : Int32).toInt64) 0 1).bind fun x5 =>
    if x5 = 0 then
    some (-1)
    else
    (X11_isCut S a1).bind fun x8 =>
      if x8 = 0 then
      (X11_hold_L42 S a1 a2 FU 0 0 0 0).bind fun t => match t with
        | .inr x30 => some x30
        | .inl (x24, x25, x26) =>
        if a2 = 0 then
        some x24
        else
        some ((x26 * x24) - x25)
      else
      some (-4)

def X11_bars_L52 (S : St) (v1 : Int32) (v2 : Int32) (v3 : Int32) (v4 : Int32) : Nat → Int32 → Int32 → Int32 → Option (Int32 × Int32)
  | 0, _, _, _ => none
  | n + 1, v5, v6, v7 =>
    (X11_rooms S ).bind fun x13 =>
    if x13 ≤ v7 then
    some (v5, v6)
    else
    (if ((v2 >>> (v7 &&& 31)) &&& 1) = 1 then
      some (1 : Int32)
      else
      some (0 : Int32)).bind fun x16 =>
      (if v5 = 0 then
      some (0 : Int32)
      else
      if x16 = 0 then
        some (1 : Int32)
        else
        (X11_wireOf S v7 v4).bind fun x34 =>
          if x34 ≤ 0 then
          some (0 : Int32)
          else
          some (1 : Int32)).bind fun x20 =>
      (if x16 = 0 then
      some v6
      else
      (X11_wireOf S v7 v4).bind fun x28 =>
        if v6 ≤ x28 then
        some v6
        else
        (X11_wireOf S v7 v4).bind fun x31 =>
          some x31).bind fun x24 =>
      X11_bars_L52 S v1 v2 v3 v4 n x20 x24 (v7 + 1)
def X11_bars_L153 (v1 : Int32) (v2 : Int32) (v3 : Int32) (v4 : Int32) (v6 : Int32) : Nat → Int32 → Int32 → Int32 → St → Option (Int32 × St)
  | 0, _, _, _, _ => none
  | n + 1, v5, v7, v8, S =>
    (X11_rooms S ).bind fun x40 =>
    if x40 ≤ v8 then
    some (v5, S)
    else
    if v5 = 0 then
      some (v5, S)
      else
      (if ((v2 >>> (v8 &&& 31)) &&& 1) = 1 then
        (if v3 = 0 then
          (X11_wireOf S v8 v4).bind fun x70 =>
            some (x70 - v6)
          else
          (ldA S 64 v8).bind fun x67 =>
            some x67).bind fun x50 =>
          (stA S 64 v8 x50).bind fun S53 =>
          (X11_wireOf S53 v8 v4).bind fun x56 =>
          (ldA S53 64 v8).bind fun x57 =>
          (if v7 = 5000 then
          some (x56 - x57)
          else
          some v7).bind fun x60 =>
          (if (x56 - x57) = x60 then
          some (1 : Int32)
          else
          some (0 : Int32)).bind fun x64 =>
          some (x64, x60, S53)
        else
        some (v5, v7, S)).bind fun (x44, x45, S46) =>
        X11_bars_L153 v1 v2 v3 v4 v6 n x44 x45 (v8 + 1) S46
def X11_bars_L5 (v1 : Int32) (v2 : Int32) : Nat → Int32 → Int32 → St → Option ((St) ⊕ (Int32 × St))
  | 0, _, _, _ => none
  | n + 1, v3, v4, S =>
    (X11_rooms S ).bind fun x2 =>
    if x2 ≤ v4 then
    some (.inl S)
    else
    if v2 = 0 then
      some (.inl S)
      else
      if ((v1 >>> (v4 &&& 31)) &&& 1) = 1 then
        (X11_isCut S v4).bind fun x7 =>
          (if x7 = 0 then
          some (1 : Int32)
          else
          some (0 : Int32)).bind fun x9 =>
          (X11_bars_L52 S v1 v2 v3 v4 FU x9 1000 0).bind fun (x36, x37) =>
          (X11_bars_L153 v1 v2 v3 v4 x37 FU x36 5000 0 S).bind fun (x71, S72) =>
          if x71 = 0 then
          some (.inr (v4, S72))
          else
          X11_bars_L5 v1 v2 n (v3 + 1) (v4 + 1) S72
        else
        X11_bars_L5 v1 v2 n v3 (v4 + 1) S
def X11_bars (S : St) (a1 : Int32) (a2 : Int32) : Option (Int32 × St) :=
  (X11_bars_L5 a1 a2 FU 0 0 S).bind fun t => match t with
  | .inr (x80, S81) => some (x80, S81)
  | .inl S77 =>
  some ((-4), S77)

def X11_together (S : St) (a1 : Int32) (a2 : Int32) : Option (Int32 × St) :=
  (X11_rooms S ).bind fun x2 =>
  (X11_in S ((a1 : Int32).toInt64) 1 ((((1 <<< (x2 &&& 31)) - 1) : Int32).toInt64)).bind fun x4 =>
  if x4 = 0 then
  some ((-1), S)
  else
  (X11_in S ((a2 : Int32).toInt64) 0 8).bind fun x7 =>
    if x7 = 0 then
    some ((-1), S)
    else
    if 8 ≤ a2 then
      (X11_singers S ).bind fun x11 =>
        if 8 ≤ a2 then
        (X11_bars S a1 (x11 &&& (a1 ^^^ (-1)))).bind fun (x14, S15) =>
          if a2 = 8 then
          some (x14, S15)
          else
          if 0 ≤ x14 then
            some ((-4), S15)
            else
            (ldA S15 64 a2).bind fun x18 =>
              some (x18, S15)
        else
        if (((x11 &&& (a1 ^^^ (-1))) >>> (a2 &&& 31)) &&& 1) = 0 then
          some ((-2), S)
          else
          (X11_bars S a1 (x11 &&& (a1 ^^^ (-1)))).bind fun (x22, S23) =>
            if a2 = 8 then
            some (x22, S23)
            else
            if 0 ≤ x22 then
              some ((-4), S23)
              else
              (ldA S23 64 a2).bind fun x26 =>
                some (x26, S23)
      else
      (X11_isRoom S a2).bind fun x29 =>
        if x29 = 0 then
        some ((-1), S)
        else
        (X11_singers S ).bind fun x32 =>
          if 8 ≤ a2 then
          (X11_bars S a1 (x32 &&& (a1 ^^^ (-1)))).bind fun (x35, S36) =>
            if a2 = 8 then
            some (x35, S36)
            else
            if 0 ≤ x35 then
              some ((-4), S36)
              else
              (ldA S36 64 a2).bind fun x39 =>
                some (x39, S36)
          else
          if (((x32 &&& (a1 ^^^ (-1))) >>> (a2 &&& 31)) &&& 1) = 0 then
            some ((-2), S)
            else
            (X11_bars S a1 (x32 &&& (a1 ^^^ (-1)))).bind fun (x43, S44) =>
              if a2 = 8 then
              some (x43, S44)
              else
              if 0 ≤ x43 then
                some ((-4), S44)
                else
                (ldA S44 64 a2).bind fun x47 =>
                  some (x47, S44)

def X11_type_L17 (S : St) (v1 : Int64) (v3 : Int32) : Nat → Int32 → Option ((Unit) ⊕ (Int32 × St))
  | 0, _ => none
  | n + 1, v4 =>
    if v3 ≤ v4 then
    some (.inl ())
    else
    (X11_in S ((v1 >>> (((8 * v4) : Int32).toInt64 &&& 63)) &&& 255) 32 126).bind fun x6 =>
      if x6 = 0 then
      some (.inr ((-1), S))
      else
      X11_type_L17 S v1 v3 n (v4 + 1)
def X11_type_L73 (v1 : Int64) : Nat → Int32 → St → Option (St)
  | 0, _, _ => none
  | n + 1, v4, S =>
    if v4 < 0 then
    some S
    else
    (stA S 65 (rI S 60 5) ((((v1 >>> (((8 * v4) : Int32).toInt64 &&& 63)) &&& 255) : Int64).toInt32)).bind fun S11 =>
      (stF S11 60 5 ((rI S11 60 5) + 1)).bind fun S13 =>
      X11_type_L73 v1 n (v4 + (-1)) S13
def X11_type (S : St) (a1 : Int64) (a3 : Int32) : Option (Int32 × St) :=
  (X11_in S ((a3 : Int32).toInt64) 1 8).bind fun x2 =>
  if x2 = 0 then
  some ((-1), S)
  else
  (X11_type_L17 S a1 a3 FU 0).bind fun t => match t with
    | .inr (x19, S20) => some (x19, S20)
    | .inl _ =>
    if ((rI S 60 5) + a3) ≤ 120 then
    (X11_type_L73 a1 FU (a3 - 1) S).bind fun S15 =>
      some ((rI S15 60 5), S15)
    else
    some ((-3), S)

def X11_next_L0 : Nat → St → Option (St)
  | 0, _ => none
  | n + 1, S =>
    if (rI S 60 5) ≤ (rI S 60 6) then
    some S
    else
    (ldA S 65 (rI S 60 6)).bind fun x2 =>
      if x2 = 32 then
      (stF S 60 6 ((rI S 60 6) + 1)).bind fun S5 =>
        X11_next_L0  n S5
      else
      some S
def X11_next (S : St) : Option (Int32 × St) :=
  (X11_next_L0  FU  S).bind fun S7 =>
  if (rI S7 60 5) ≤ (rI S7 60 6) then
  some (0, S7)
  else
  (ldA S7 65 (rI S7 60 6)).bind fun x10 =>
    some (x10, S7)

def X11_reads_L123 (v1 : Int32) (v5 : Int32) (v6 : Int32) : Nat → Int32 → St → Option (St)
  | 0, _, _ => none
  | n + 1, v7, S =>
    if v6 ≤ v7 then
    some S
    else
    (stA S 66 (v1 + v7) v5).bind fun S26 =>
      X11_reads_L123 v1 v5 v6 n (v7 + 1) S26
def X11_reads (S : St) (a1 : Int32) (a2 : Int32) : Option (Int32 × St) :=
  (X11_next S ).bind fun (x2, S3) =>
  (X11_in S3 ((x2 : Int32).toInt64) 97 103).bind fun x5 =>
  (if x5 = 0 then
  some (0 : Int32)
  else
  some (x2 - 96)).bind fun x7 =>
  if x7 = 0 then
  if x2 = 45 then
    if a2 = 40 then
      some ((-1), S3)
      else
      (stF S3 60 6 ((rI S3 60 6) + 1)).bind fun S53 =>
        (X11_next S53 ).bind fun (x56, S57) =>
        (X11_in S57 ((x56 : Int32).toInt64) 49 57).bind fun x59 =>
        (if x59 = 0 then
        some ((1 : Int32), S57)
        else
        (X11_next S57 ).bind fun (x85, S86) =>
          (stF S86 60 6 ((rI S86 60 6) + 1)).bind fun S87 =>
          some ((x85 - 48), S87)).bind fun (x61, S62) =>
        if (a1 + x61) ≤ 64 then
        (X11_reads_L123 a1 x7 x61 FU 0 S62).bind fun S66 =>
          (X11_next S66 ).bind fun (x69, S70) =>
          (if x69 = 46 then
          (ldA S70 66 ((a1 + x61) - 1)).bind fun x75 =>
            (stA S70 66 ((a1 + x61) - 1) (x75 + 10)).bind fun S77 =>
            (stF S77 60 6 ((rI S77 60 6) + 1)).bind fun S79 =>
            some S79
          else
          some S70).bind fun S72 =>
          some ((a1 + x61), S72)
        else
        (stF S62 60 6 (rI S3 60 6)).bind fun S82 =>
          some ((-1), S82)
    else
    some ((-1), S3)
  else
  if a2 = 40 then
    some ((-1), S3)
    else
    (stF S3 60 6 ((rI S3 60 6) + 1)).bind fun S12 =>
      (X11_next S12 ).bind fun (x15, S16) =>
      (X11_in S16 ((x15 : Int32).toInt64) 49 57).bind fun x18 =>
      (if x18 = 0 then
      some ((1 : Int32), S16)
      else
      (X11_next S16 ).bind fun (x47, S48) =>
        (stF S48 60 6 ((rI S48 60 6) + 1)).bind fun S49 =>
        some ((x47 - 48), S49)).bind fun (x20, S21) =>
      if (a1 + x20) ≤ 64 then
      (X11_reads_L123 a1 x7 x20 FU 0 S21).bind fun S28 =>
        (X11_next S28 ).bind fun (x31, S32) =>
        (if x31 = 46 then
        (ldA S32 66 ((a1 + x20) - 1)).bind fun x37 =>
          (stA S32 66 ((a1 + x20) - 1) (x37 + 10)).bind fun S39 =>
          (stF S39 60 6 ((rI S39 60 6) + 1)).bind fun S41 =>
          some S41
        else
        some S32).bind fun S34 =>
        some ((a1 + x20), S34)
      else
      (stF S21 60 6 (rI S3 60 6)).bind fun S44 =>
        some ((-1), S44)

def X11_piece_L11 : Nat → Int32 → Int32 → Int32 → St → Option (Int32 × St)
  | 0, _, _, _, _ => none
  | n + 1, v1, v2, v3, S =>
    if v3 = 0 then
    some (v1, S)
    else
    (X11_reads S v1 v2).bind fun (x5, S6) =>
      (if x5 < 0 then
      some ((0 : Int32), S6)
      else
      (X11_next S6 ).bind fun (x13, S14) =>
        if x13 = 0 then
        some ((0 : Int32), S14)
        else
        some ((1 : Int32), S14)).bind fun (x8, S9) =>
      X11_piece_L11  n x5 (v2 + 1) x8 S9
def X11_piece_L65 (v1 : Int32) : Nat → Int32 → St → Option (St)
  | 0, _, _ => none
  | n + 1, v4, S =>
    if v1 ≤ v4 then
    some S
    else
    (ldA S 66 v4).bind fun x23 =>
      (stA S 61 (136 + v4) x23).bind fun S25 =>
      X11_piece_L65 v1 n (v4 + 1) S25
def X11_piece (S : St) : Option (Int32 × St) :=
  (stF S 60 6 0).bind fun S1 =>
  (X11_piece_L11  FU 0 0 1 S1).bind fun (x16, S17) =>
  (stF S17 60 5 0).bind fun S19 =>
  if 0 ≤ x16 then
  (X11_piece_L65 x16 FU 0 S19).bind fun S27 =>
    (stA S27 61 130 x16).bind fun S29 =>
    some (x16, S29)
  else
  some (((-20) - (rI S19 60 6)), S19)

def X11_sound (S : St) (a1 : Int32) : Option (Int32) :=
  (ldA S 61 130).bind fun x1 =>
  (X11_in S ((a1 : Int32).toInt64) 0 (((x1 - 1) : Int32).toInt64)).bind fun x4 =>
  if x4 = 0 then
  some (-1)
  else
  (ldA S 61 (136 + a1)).bind fun x6 =>
    some x6

def X11_fit (S : St) (a1 : Int32) : Option (Int32 × St) :=
  (X11_in S ((a1 : Int32).toInt64) 0 127).bind fun x2 =>
  if x2 = 0 then
  some ((-1), S)
  else
  (ldA S 61 129).bind fun x4 =>
    (stA S 61 129 a1).bind fun S6 =>
    some (x4, S6)

def X11_clashesAt_L4 (S : St) (v1 : Int32) : Nat → Int32 → Int32 → Option (Int32)
  | 0, _, _ => none
  | n + 1, v2, v3 =>
    (ldA S 61 130).bind fun x1 =>
    if x1 ≤ v3 then
    some v2
    else
    (ldA S 61 (136 + v3)).bind fun x4 =>
      (rmO x4 10).bind fun x6 =>
      (ldA S 61 ((136 + v3) - v1)).bind fun x8 =>
      (rmO x8 10).bind fun x10 =>
      (if x6 ≤ x10 then
      some (x10 - x6)
      else
      some (x6 - x10)).bind fun x13 =>
      (if x6 ≤ 0 then
      some (0 : Int32)
      else
      if x10 ≤ 0 then
        some (0 : Int32)
        else
        (ldA S 61 129).bind fun x21 =>
          if ((x21 >>> (x13 &&& 31)) &&& 1) = 0 then
          some (1 : Int32)
          else
          some (0 : Int32)).bind fun x17 =>
      X11_clashesAt_L4 S v1 n (v2 + x17) (v3 + 1)
def X11_clashesAt (S : St) (a1 : Int32) : Option (Int32) :=
  (X11_clashesAt_L4 S a1 FU 0 a1).bind fun x24 =>
  some x24

def X11_clashes (S : St) (a1 : Int32) : Option (Int32) :=
  (ldA S 61 130).bind fun x1 =>
  (X11_in S ((a1 : Int32).toInt64) 1 (((x1 - 1) : Int32).toInt64)).bind fun x4 =>
  if x4 = 0 then
  some (-1)
  else
  (X11_clashesAt S a1).bind fun x7 =>
    some x7

def X11_canon_L10 (S : St) : Nat → Int32 → Int32 → Option ((Unit) ⊕ (Int32))
  | 0, _, _ => none
  | n + 1, v2, v3 =>
    (ldA S 61 130).bind fun x2 =>
    if x2 ≤ v3 then
    some (.inl ())
    else
    (X11_clashesAt S v3).bind fun x6 =>
      (if x6 = 0 then
      some (1 : Int32)
      else
      some (0 : Int32)).bind fun x8 =>
      if x8 = 0 then
      (if x8 = 0 then
        some (0 : Int32)
        else
        some (1 : Int32)).bind fun x13 =>
        X11_canon_L10 S  n (v2 - x13) (v3 + 1)
      else
      if v2 = 0 then
        some (.inr v3)
        else
        (if x8 = 0 then
          some (0 : Int32)
          else
          some (1 : Int32)).bind fun x18 =>
          X11_canon_L10 S  n (v2 - x18) (v3 + 1)
def X11_canon (S : St) (a1 : Int32) : Option (Int32) :=
  if 0 ≤ a1 then
  (X11_canon_L10 S  FU a1 1).bind fun t => match t with
    | .inr x23 => some x23
    | .inl _ =>
    some (-4)
  else
  some (-1)

def X11_sea (S : St) (a1 : Int32) (a2 : Int32) : Option (Int32) :=
  (X11_in S ((a1 : Int32).toInt64) 1 63).bind fun x2 =>
  if x2 = 0 then
  some (-1)
  else
  (X11_in S ((a2 : Int32).toInt64) 1 40000).bind fun x5 =>
    if x5 = 0 then
    some (-1)
    else
    (rmO a2 a1).bind fun x7 =>
      if x7 = 0 then
      (dvO a2 a1).bind fun x10 =>
        if x10 ≤ 2000 then
        (dvO a2 a1).bind fun x13 =>
          some x13
        else
        some (-4)
      else
      some (-4)

def X11_lose (S : St) (a1 : Int32) (a2 : Int32) (a3 : Int32) (a4 : Int32) : Option (Int32 × St) :=
  (X11_in S ((a1 : Int32).toInt64) 1 7).bind fun x2 =>
  if x2 = 0 then
  some ((-1), S)
  else
  (X11_isRoom S a2).bind fun x5 =>
    if x5 = 0 then
    some ((-1), S)
    else
    (X11_isRoom S a3).bind fun x8 =>
      if x8 = 0 then
      some ((-1), S)
      else
      if a2 = a3 then
        some ((-1), S)
        else
        (ldA S 61 (((200 + (64 * (a1 - 1))) + (8 * a2)) + a3)).bind fun x11 =>
          (if a4 = 0 then
          some (0 : Int32)
          else
          some (1 : Int32)).bind fun x14 =>
          (stA S 61 (((200 + (64 * (a1 - 1))) + (8 * a2)) + a3) x14).bind fun S17 =>
          some (x11, S17)

def X11_tells_L2 (v1 : Int32) : Nat → Int32 → St → Option (St)
  | 0, _, _ => none
  | n + 1, v2, S =>
    (X11_rooms S ).bind fun x2 =>
    if x2 ≤ v2 then
    some S
    else
    (stA S 67 v2 (1 <<< (v2 &&& 31))).bind fun S4 =>
      X11_tells_L2 v1 n (v2 + 1) S4
def X11_tells_L57 (v1 : Int32) (v2 : Int32) (v3 : Int32) : Nat → Int32 → St → Option (St)
  | 0, _, _ => none
  | n + 1, v4, S =>
    (X11_rooms S ).bind fun x17 =>
    if x17 ≤ v4 then
    some S
    else
    (if v4 = v3 then
      some (0 : Int32)
      else
      (X11_isCut S v4).bind fun x34 =>
        if x34 = 0 then
        (X11_isCut S v3).bind fun x37 =>
          if x37 = 0 then
          (X11_wireOf S v4 v3).bind fun x40 =>
            if x40 ≤ 0 then
            some (0 : Int32)
            else
            (ldA S 61 (((200 + (64 * (v2 - 1))) + (8 * v4)) + v3)).bind fun x42 =>
              if x42 = 0 then
              some (1 : Int32)
              else
              some (0 : Int32)
          else
          some (0 : Int32)
        else
        some (0 : Int32)).bind fun x20 =>
      (ldA S 68 v3).bind fun x23 =>
      (if x20 = 0 then
      some (0 : Int32)
      else
      (ldA S 67 v4).bind fun x31 =>
        some x31).bind fun x26 =>
      (stA S 68 v3 (x23 ||| x26)).bind fun S29 =>
      X11_tells_L57 v1 v2 v3 n (v4 + 1) S29
def X11_tells_L34 (v1 : Int32) (v2 : Int32) : Nat → Int32 → St → Option (St)
  | 0, _, _ => none
  | n + 1, v3, S =>
    (X11_rooms S ).bind fun x10 =>
    if x10 ≤ v3 then
    some S
    else
    (ldA S 67 v3).bind fun x12 =>
      (stA S 68 v3 x12).bind fun S14 =>
      (X11_tells_L57 v1 v2 v3 FU 0 S14).bind fun S45 =>
      X11_tells_L34 v1 v2 n (v3 + 1) S45
def X11_tells_L171 (v1 : Int32) (v2 : Int32) : Nat → Int32 → St → Option (St)
  | 0, _, _ => none
  | n + 1, v3, S =>
    (X11_rooms S ).bind fun x51 =>
    if x51 ≤ v3 then
    some S
    else
    (ldA S 68 v3).bind fun x53 =>
      (stA S 67 v3 x53).bind fun S55 =>
      X11_tells_L171 v1 v2 n (v3 + 1) S55
def X11_tells_L27 (v1 : Int32) : Nat → Int32 → St → Option (St)
  | 0, _, _ => none
  | n + 1, v2, S =>
    if v1 < v2 then
    some S
    else
    (X11_tells_L34 v1 v2 FU 0 S).bind fun S48 =>
      (X11_tells_L171 v1 v2 FU 0 S48).bind fun S57 =>
      X11_tells_L27 v1 n (v2 + 1) S57
def X11_tells (S : St) (a1 : Int32) : Option (St) :=
  (X11_tells_L2 a1 FU 0 S).bind fun S6 =>
  (X11_tells_L27 a1 FU 1 S6).bind fun S61 =>
  some S61

def X11_knows (S : St) (a1 : Int32) (a2 : Int32) : Option (Int32 × St) :=
  (X11_isRoom S a1).bind fun x2 =>
  if x2 = 0 then
  some ((-1), S)
  else
  (X11_in S ((a2 : Int32).toInt64) 0 7).bind fun x5 =>
    if x5 = 0 then
    some ((-1), S)
    else
    (X11_tells S a2).bind fun S8 =>
      (ldA S8 67 a1).bind fun x9 =>
      some (x9, S8)

def X11_goes_L36 (S : St) (v1 : Int32) : Nat → Int32 → Int32 → Int32 → Option (Int32 × Int32)
  | 0, _, _, _ => none
  | n + 1, v3, v4, v5 =>
    (X11_rooms S ).bind fun x10 =>
    if x10 ≤ v5 then
    some (v3, v4)
    else
    (X11_isCut S v5).bind fun x13 =>
      (if x13 = 0 then
      (X11_of S v5 5).bind fun x20 =>
        (if v3 ≤ x20 then
        some v3
        else
        (X11_of S v5 5).bind fun x26 =>
          some x26).bind fun x22 =>
        some (x22, (v4 ||| (1 <<< (v5 &&& 31))))
      else
      some (v3, v4)).bind fun (x15, x16) =>
      X11_goes_L36 S v1 n x15 x16 (v5 + 1)
def X11_goes_L123 (S : St) (v3 : Int32) : Nat → Int32 → Int32 → Option (Int32)
  | 0, _, _ => none
  | n + 1, v5, v6 =>
    (ldA S 61 130).bind fun x36 =>
    if x36 ≤ v6 then
    some v5
    else
    (ldA S 61 (136 + v6)).bind fun x39 =>
      (if x39 < 10 then
      some v5
      else
      if v3 < (v6 + 1) then
        some v5
        else
        some (v6 + 1)).bind fun x42 =>
      X11_goes_L123 S v3 n x42 (v6 + 1)
def X11_goes (S : St) (a1 : Int32) (a2 : Int32) : Option (Int32 × St) :=
  (X11_isRoom S a1).bind fun x2 =>
  if x2 = 0 then
  some ((-1), S)
  else
  (X11_in S ((a2 : Int32).toInt64) 0 7).bind fun x5 =>
    if x5 = 0 then
    some ((-1), S)
    else
    (X11_tells S a2).bind fun S8 =>
      (X11_goes_L36 S8 a1 FU 64 0 0).bind fun (x27, x28) =>
      (X11_isCut S8 a1).bind fun x31 =>
      if x31 = 0 then
      (ldA S8 67 a1).bind fun x33 =>
        if (x33 &&& x28) = x28 then
        (X11_goes_L123 S8 x27 FU 0 0).bind fun x46 =>
          some (x46, S8)
        else
        some ((-4), S8)
      else
      some ((-4), S8)

def X11_loss (S : St) (a1 : Int64) : Option (Int32 × St) :=
  (X11_in S a1 0 281474976710655).bind fun x2 =>
  if x2 = 0 then
  some ((-1), S)
  else
  (ldA S 61 132).bind fun x4 =>
    if x4 = 8 then
    some ((-3), S)
    else
    (ldA S 61 132).bind fun x7 =>
      (stL S 62 x7 a1).bind fun S9 =>
      (ldA S9 61 132).bind fun x11 =>
      (stA S9 61 132 (x11 + 1)).bind fun S13 =>
      (ldA S13 61 132).bind fun x15 =>
      some ((x15 - 1), S13)

def X11_lostBy_L22 (S : St) (v1 : Int32) (v2 : Int32) (v3 : Int32) (v4 : Int32) : Nat → Int32 → Int32 → Int32 → Option (Int32 × Int32)
  | 0, _, _, _ => none
  | n + 1, v5, v6, v7 =>
    if (v4 + v2) ≤ v7 then
    some (v5, v6)
    else
    if 24 ≤ v7 then
      some (v5, v6)
      else
      (ldL S 62 v1).bind fun x4 =>
        (if (lg_cmp ((x4 >>> ((v7 : Int32).toInt64 &&& 63)) &&& 1) 1) = 0 then
        some (1 : Int32)
        else
        some (0 : Int32)).bind fun x7 =>
        (if x7 = 0 then
        some (0 : Int32)
        else
        some ((1 <<< (v7 &&& 31)) : Int32)).bind fun x11 =>
        (if x7 = 0 then
        some (0 : Int32)
        else
        some (1 : Int32)).bind fun x15 =>
        X11_lostBy_L22 S v1 v2 v3 v4 n (v5 ||| x11) (v6 + x15) (v7 + 1)
def X11_lostBy_L5 (S : St) (v1 : Int32) (v2 : Int32) : Nat → Int32 → Int32 → Option (Int32)
  | 0, _, _ => none
  | n + 1, v3, v4 =>
    if 24 ≤ v4 then
    some v3
    else
    (X11_lostBy_L22 S v1 v2 v3 v4 FU 0 0 v4).bind fun (x18, x19) =>
      (ldL S 62 v1).bind fun x21 =>
      (dvO v4 v2).bind fun x23 =>
      (if (lg_cmp ((x21 >>> (((24 + x23) : Int32).toInt64 &&& 63)) &&& 1) 1) = 0 then
      some (1 : Int32)
      else
      some (0 : Int32)).bind fun x26 =>
      (if x19 = 1 then
      if x26 = 0 then
        some (0 : Int32)
        else
        some x18
      else
      some x18).bind fun x30 =>
      X11_lostBy_L5 S v1 v2 n (v3 ||| x30) (v4 + v2)
def X11_lostBy (S : St) (a1 : Int32) (a2 : Int32) : Option (Int32) :=
  (X11_lostBy_L5 S a1 a2 FU 0 0).bind fun x35 =>
  some x35

def X11_lost (S : St) (a1 : Int32) (a2 : Int32) : Option (Int32) :=
  (ldA S 61 132).bind fun x1 =>
  (X11_in S ((a1 : Int32).toInt64) 0 (((x1 - 1) : Int32).toInt64)).bind fun x4 =>
  if x4 = 0 then
  some (-1)
  else
  (X11_in S ((a2 : Int32).toInt64) 1 12).bind fun x7 =>
    if x7 = 0 then
    some (-1)
    else
    (X11_lostBy S a1 a2).bind fun x10 =>
      some x10

def X11_group_L11 (S : St) (v1 : Int32) : Nat → Int32 → Int32 → Option (Int32)
  | 0, _, _ => none
  | n + 1, v2, v3 =>
    (ldA S 61 132).bind fun x2 =>
    if x2 ≤ v3 then
    some v2
    else
    (if v2 = 0 then
      some (0 : Int32)
      else
      (X11_lostBy S v3 v1).bind fun x10 =>
        if x10 = 0 then
        some (1 : Int32)
        else
        some (0 : Int32)).bind fun x6 =>
      X11_group_L11 S v1 n x6 (v3 + 1)
def X11_group_L3 (S : St) : Nat → Int32 → Option ((Unit) ⊕ (Int32))
  | 0, _ => none
  | n + 1, v1 =>
    if v1 ≤ 0 then
    some (.inl ())
    else
    (X11_group_L11 S v1 FU 1 0).bind fun x12 =>
      if x12 = 0 then
      X11_group_L3 S  n (v1 + (-1))
      else
      some (.inr v1)
def X11_group (S : St) : Option (Int32) :=
  (X11_group_L3 S  FU 12).bind fun t => match t with
  | .inr x18 => some x18
  | .inl _ =>
  some (-4)

def X11_clear (S : St) : Option (Int32 × St) :=
  (ldA S 61 132).bind fun x1 =>
  (stA S 61 132 0).bind fun S3 =>
  some (x1, S3)

def X11_most (S : St) (a1 : Int32) : Option (Int32 × St) :=
  (X11_in S ((a1 : Int32).toInt64) 1 7).bind fun x2 =>
  if x2 = 0 then
  some ((-1), S)
  else
  (ldA S 61 131).bind fun x4 =>
    (stA S 61 131 a1).bind fun S6 =>
    some (x4, S6)

def X11_parts_L2 (v1 : Int32) : Nat → Int32 → St → Option (St)
  | 0, _, _ => none
  | n + 1, v2, S =>
    if v1 ≤ v2 then
    some S
    else
    (stA S 71 v2 1).bind fun S2 =>
      X11_parts_L2 v1 n (v2 + 1) S2
def X11_parts_L22 (v1 : Int32) : Nat → Int32 → St → Option (St)
  | 0, _, _ => none
  | n + 1, v2, S =>
    if (v1 - 2) ≤ v2 then
    some S
    else
    (ldA S 70 v2).bind fun x7 =>
      (ldA S 71 x7).bind fun x9 =>
      (stA S 71 x7 (x9 + 1)).bind fun S11 =>
      X11_parts_L22 v1 n (v2 + 1) S11
def X11_parts_L54 (S : St) (v1 : Int32) : Nat → Int32 → Int32 → Option (Int32)
  | 0, _, _ => none
  | n + 1, v2, v3 =>
    if v1 ≤ v3 then
    some v2
    else
    (if v2 = 0 then
      some (0 : Int32)
      else
      (ldA S 71 v3).bind fun x20 =>
        (ldA S 61 131).bind fun x22 =>
        if x22 < x20 then
        some (0 : Int32)
        else
        some (1 : Int32)).bind fun x17 =>
      X11_parts_L54 S v1 n x17 (v3 + 1)
def X11_parts_L108 (S : St) (v1 : Int32) (v2 : Int32) (v3 : Int32) (v4 : Int32) : Nat → Int32 → Option (Int32)
  | 0, _ => none
  | n + 1, v5 =>
    (ldA S 71 v5).bind fun x28 =>
    if x28 = 1 then
    some v5
    else
    X11_parts_L108 S v1 v2 v3 v4 n (v5 + 1)
def X11_parts_L97 (v1 : Int32) (v2 : Int32) : Nat → Int32 → Int32 → St → Option (Int32 × St)
  | 0, _, _, _ => none
  | n + 1, v3, v4, S =>
    if (v1 - 2) ≤ v4 then
    some (v3, S)
    else
    (X11_parts_L108 S v1 v2 v3 v4 FU 0).bind fun x31 =>
      (stA S 72 (2 * v3) x31).bind fun S33 =>
      (ldA S33 70 v4).bind fun x35 =>
      (stA S33 72 ((2 * v3) + 1) x35).bind fun S37 =>
      (stA S37 71 x31 0).bind fun S39 =>
      (ldA S39 70 v4).bind fun x41 =>
      (ldA S39 71 x41).bind fun x43 =>
      (stA S39 71 x41 (x43 - 1)).bind fun S45 =>
      X11_parts_L97 v1 v2 n (v3 + 1) (v4 + 1) S45
def X11_parts_L188 (S : St) (v2 : Int32) (v3 : Int32) : Nat → Int32 → Option (Int32)
  | 0, _ => none
  | n + 1, v4 =>
    (ldA S 71 v4).bind fun x51 =>
    if x51 = 1 then
    some v4
    else
    X11_parts_L188 S v2 v3 n (v4 + 1)
def X11_parts_L211 (S : St) (v2 : Int32) (v3 : Int32) (v4 : Int32) : Nat → Int32 → Option (Int32)
  | 0, _ => none
  | n + 1, v5 =>
    (ldA S 71 v5).bind fun x56 =>
    if x56 = 1 then
    some v5
    else
    X11_parts_L211 S v2 v3 v4 n (v5 + 1)
def X11_parts (S : St) (a1 : Int32) : Option (Int32 × St) :=
  (X11_parts_L2 a1 FU 0 S).bind fun S4 =>
  (X11_parts_L22 a1 FU 0 S4).bind fun S13 =>
  (X11_parts_L54 S13 a1 FU 1 0).bind fun x25 =>
  (X11_parts_L97 a1 x25 FU 0 0 S13).bind fun (x48, S49) =>
  (X11_parts_L188 S49 x25 x48 FU 0).bind fun x54 =>
  (X11_parts_L211 S49 x25 x48 x54 FU (x54 + 1)).bind fun x59 =>
  (stA S49 72 (2 * x48) x54).bind fun S61 =>
  (stA S61 72 ((2 * x48) + 1) x59).bind fun S63 =>
  some (x25, S63)

def X11_waitOf_L2 (v1 : Int32) : Nat → Int32 → St → Option (St)
  | 0, _, _ => none
  | n + 1, v2, S =>
    if 36 ≤ v2 then
    some S
    else
    (rmO v2 7).bind fun x2 =>
      (if x2 = 0 then
      some (0 : Int32)
      else
      some ((-1) : Int32)).bind fun x5 =>
      (stA S 73 v2 x5).bind fun S8 =>
      X11_waitOf_L2 v1 n (v2 + 1) S8
def X11_waitOf_L115 (v1 : Int32) (v2 : Int32) (v3 : Int32) (v4 : Int32) (v5 : Int32) (v6 : Int32) : Nat → Int32 → St → Option (St)
  | 0, _, _ => none
  | n + 1, v7, S =>
    if v1 ≤ v7 then
    some S
    else
    (if v7 = v3 then
      some S
      else
      (ldA S 73 ((6 * v4) + v7)).bind fun x36 =>
        if x36 < 0 then
        some S
        else
        (ldA S 73 ((6 * v4) + v7)).bind fun x39 =>
          (stA S 73 ((6 * v3) + v7) (v5 + x39)).bind fun S41 =>
          (ldA S41 73 ((6 * v7) + v4)).bind fun x43 =>
          (stA S41 73 ((6 * v7) + v3) (x43 + v6)).bind fun S45 =>
          some S45).bind fun S33 =>
      X11_waitOf_L115 v1 v2 v3 v4 v5 v6 n (v7 + 1) S33
def X11_waitOf_L36 (v1 : Int32) : Nat → Int32 → St → Option ((St) ⊕ (Int32 × St))
  | 0, _, _ => none
  | n + 1, v2, S =>
    if v2 < 0 then
    some (.inl S)
    else
    (ldA S 72 (2 * v2)).bind fun x13 =>
      (ldA S 72 ((2 * v2) + 1)).bind fun x15 =>
      (ldA S 69 x13).bind fun x17 =>
      (ldA S 69 x15).bind fun x19 =>
      (X11_wireOf S x17 x19).bind fun x22 =>
      (ldA S 69 x15).bind fun x23 =>
      (ldA S 69 x13).bind fun x25 =>
      (X11_wireOf S x23 x25).bind fun x28 =>
      if x22 = 0 then
      some (.inr ((-4), S))
      else
      if x28 = 0 then
        some (.inr ((-4), S))
        else
        (X11_waitOf_L115 v1 v2 x13 x15 x22 x28 FU 0 S).bind fun S47 =>
          X11_waitOf_L36 v1 n (v2 + (-1)) S47
def X11_waitOf_L223 (S : St) (v1 : Int32) (v3 : Int32) : Nat → Int32 → Int32 → Option (Int32)
  | 0, _, _ => none
  | n + 1, v2, v4 =>
    if v1 ≤ v4 then
    some v2
    else
    (ldA S 73 ((6 * v3) + v4)).bind fun x54 =>
      (if x54 ≤ v2 then
      some v2
      else
      (ldA S 73 ((6 * v3) + v4)).bind fun x60 =>
        some x60).bind fun x57 =>
      X11_waitOf_L223 S v1 v3 n x57 (v4 + 1)
def X11_waitOf_L215 (S : St) (v1 : Int32) : Nat → Int32 → Int32 → Option (Int32)
  | 0, _, _ => none
  | n + 1, v2, v3 =>
    if v1 ≤ v3 then
    some v2
    else
    (X11_waitOf_L223 S v1 v3 FU v2 0).bind fun x62 =>
      X11_waitOf_L215 S v1 n x62 (v3 + 1)
def X11_waitOf (S : St) (a1 : Int32) : Option (Int32 × St) :=
  (X11_waitOf_L2 a1 FU 0 S).bind fun S10 =>
  (X11_waitOf_L36 a1 FU (a1 - 2) S10).bind fun t => match t with
  | .inr (x69, S70) => some (x69, S70)
  | .inl S50 =>
  (X11_waitOf_L215 S50 a1 FU 0 0).bind fun x65 =>
  some (x65, S50)

def X11_net_L6 (S : St) (v1 : Int32) : Nat → Int32 → Int32 → Option (Int32)
  | 0, _, _ => none
  | n + 1, v2, v3 =>
    (X11_rooms S ).bind fun x2 =>
    if x2 ≤ v3 then
    some v2
    else
    (X11_isCut S v3).bind fun x5 =>
      (if x5 = 0 then
      some (0 : Int32)
      else
      some (1 : Int32)).bind fun x7 =>
      X11_net_L6 S v1 n (v2 + x7) (v3 + 1)
def X11_net_L60 : Nat → Int32 → Int32 → St → Option (Int32 × St)
  | 0, _, _, _ => none
  | n + 1, v1, v3, S =>
    (X11_rooms S ).bind fun x18 =>
    if x18 ≤ v3 then
    some (v1, S)
    else
    (X11_isCut S v3).bind fun x21 =>
      (if x21 = 0 then
      (stA S 69 v1 v3).bind fun S27 =>
        some ((v1 + 1), S27)
      else
      some (v1, S)).bind fun (x23, S24) =>
      X11_net_L60  n x23 (v3 + 1) S24
def X11_net_L97 (S : St) (v1 : Int32) : Nat → Int32 → Int32 → Option (Int32)
  | 0, _, _ => none
  | n + 1, v3, v4 =>
    if (v1 - 2) ≤ v4 then
    some v3
    else
    X11_net_L97 S v1 n (v3 * v1) (v4 + 1)
def X11_net_L135 (v1 : Int32) (v3 : Int32) (v4 : Int32) (v5 : Int32) : Nat → Int32 → Int32 → St → Option (St)
  | 0, _, _, _ => none
  | n + 1, v6, v7, S =>
    if (v1 - 2) ≤ v7 then
    some S
    else
    (rmO v6 v1).bind fun x37 =>
      (stA S 70 v7 x37).bind fun S39 =>
      (dvO v6 v1).bind fun x41 =>
      X11_net_L135 v1 v3 v4 v5 n x41 (v7 + 1) S39
def X11_net_L122 (v1 : Int32) (v3 : Int32) : Nat → Int32 → Int32 → St → Option (Int32 × St)
  | 0, _, _, _ => none
  | n + 1, v4, v5, S =>
    if v3 ≤ v5 then
    some (v4, S)
    else
    (X11_net_L135 v1 v3 v4 v5 FU v5 0 S).bind fun S43 =>
      (X11_parts S43 v1).bind fun (x46, S47) =>
      (if x46 = 0 then
      some (((-4) : Int32), S47)
      else
      (X11_waitOf S47 v1).bind fun (x60, S61) =>
        some (x60, S61)).bind fun (x49, S50) =>
      (if x49 < 0 then
      some v4
      else
      if v4 < 0 then
        some x49
        else
        if v4 ≤ x49 then
          some v4
          else
          some x49).bind fun x54 =>
      X11_net_L122 v1 v3 n x54 (v5 + 1) S50
def X11_net (S : St) : Option (Int32 × St) :=
  (X11_net_L6 S 0 FU 0 0).bind fun x10 =>
  (X11_rooms S ).bind fun x13 =>
  (X11_in S (((x13 - x10) : Int32).toInt64) 2 6).bind fun x15 =>
  if x15 = 0 then
  some ((-2), S)
  else
  (X11_net_L60  FU 0 0 S).bind fun (x29, S30) =>
    (X11_net_L97 S30 x29 FU 1 0).bind fun x33 =>
    (X11_net_L122 x29 x33 FU (-4) 0 S30).bind fun (x63, S64) =>
    some (x63, S64)

def X11_image_L14 (v1 : Int32) : Nat → Int32 → St → Option (St)
  | 0, _, _ => none
  | n + 1, v2, S =>
    if 648 ≤ v2 then
    some S
    else
    (ldA S 61 v2).bind fun x5 =>
      (stA S 74 ((648 * v1) + v2) x5).bind fun S7 =>
      X11_image_L14 v1 n (v2 + 1) S7
def X11_image_L47 (v1 : Int32) : Nat → Int32 → St → Option (St)
  | 0, _, _ => none
  | n + 1, v2, S =>
    if 8 ≤ v2 then
    some S
    else
    (ldL S 62 v2).bind fun x12 =>
      (stL S 75 ((8 * v1) + v2) x12).bind fun S14 =>
      X11_image_L47 v1 n (v2 + 1) S14
def X11_image (S : St) (a1 : Int32) : Option (Int32 × St) :=
  (X11_in S ((a1 : Int32).toInt64) 0 1).bind fun x2 =>
  if x2 = 0 then
  some ((-1), S)
  else
  (X11_image_L14 a1 FU 0 S).bind fun S9 =>
    (X11_image_L47 a1 FU 0 S9).bind fun S16 =>
    (stZ S16 76 a1 1).bind fun S18 =>
    some (1, S18)

def X11_restore_L26 (v1 : Int32) : Nat → Int32 → St → Option (St)
  | 0, _, _ => none
  | n + 1, v2, S =>
    if 648 ≤ v2 then
    some S
    else
    (ldA S 74 ((648 * v1) + v2)).bind fun x8 =>
      (stA S 61 v2 x8).bind fun S10 =>
      X11_restore_L26 v1 n (v2 + 1) S10
def X11_restore_L59 (v1 : Int32) : Nat → Int32 → St → Option (St)
  | 0, _, _ => none
  | n + 1, v2, S =>
    if 8 ≤ v2 then
    some S
    else
    (ldL S 75 ((8 * v1) + v2)).bind fun x15 =>
      (stL S 62 v2 x15).bind fun S17 =>
      X11_restore_L59 v1 n (v2 + 1) S17
def X11_restore (S : St) (a1 : Int32) : Option (Int32 × St) :=
  (X11_in S ((a1 : Int32).toInt64) 0 1).bind fun x2 =>
  if x2 = 0 then
  some ((-1), S)
  else
  (ldZ S 76 a1).bind fun x4 =>
    if x4 = 0 then
    some ((-4), S)
    else
    (X11_restore_L26 a1 FU 0 S).bind fun S12 =>
      (X11_restore_L59 a1 FU 0 S12).bind fun S19 =>
      some (1, S19)

def X11_sheet_L46 (v1 : Int32) (v3 : Int32) : Nat → Int32 → St → Option (St)
  | 0, _, _ => none
  | n + 1, v4, S =>
    if 40 ≤ v4 then
    some S
    else
    (stA S 79 ((40 * v1) + v4) 0).bind fun S14 =>
      X11_sheet_L46 v1 v3 n (v4 + 1) S14
def X11_sheet (S : St) (a1 : Int32) (a2 : Int32) (a3 : Int32) : Option (Int32 × St) :=
  (X11_isSheet S a1).bind fun x2 =>
  if x2 = 0 then
  some ((-1), S)
  else
  (X11_isLane S a2).bind fun x5 =>
    if x5 = 0 then
    some ((-1), S)
    else
    if a3 ≤ 40 then
      if 0 ≤ a3 then
        (stA S 77 a1 a2).bind fun S9 =>
          (stA S9 78 a1 a3).bind fun S11 =>
          (X11_sheet_L46 a1 a3 FU 0 S11).bind fun S16 =>
          some (a3, S16)
        else
        some ((-14), S)
      else
      some ((-1), S)

def X11_drop (S : St) (a1 : Int32) : Option (Int32 × St) :=
  (X11_isSheet S a1).bind fun x2 =>
  if x2 = 0 then
  some ((-1), S)
  else
  (ldA S 77 a1).bind fun x4 =>
    if 0 ≤ x4 then
    (stA S 77 a1 (-1)).bind fun S7 =>
      (ldA S7 78 a1).bind fun x9 =>
      some (x9, S7)
    else
    some ((-11), S)

def X11_item (S : St) (a1 : Int32) (a2 : Int32) (a3 : Int32) (a4 : Int32) : Option (Int32 × St) :=
  (X11_isSheet S a1).bind fun x2 =>
  if x2 = 0 then
  some ((-1), S)
  else
  (X11_isLane S a2).bind fun x5 =>
    if x5 = 0 then
    some ((-1), S)
    else
    (X11_finds S a1 a2 a3 1).bind fun x8 =>
      if 0 ≤ x8 then
      (if a2 = 0 then
        some ((a4 : Int32).toInt8.toInt32)
        else
        if a2 = 1 then
          some ((a4 : Int32).toInt16.toInt32)
          else
          some a4).bind fun x11 =>
        (stA S 79 ((40 * a1) + a3) x11).bind fun S14 =>
        some (1, S14)
      else
      some (x8, S)

def X11_copy_L101 (v1 : Int32) (v2 : Int32) (v3 : Int32) (v4 : Int32) (v5 : Int32) : Nat → Int32 → St → Option (St)
  | 0, _, _ => none
  | n + 1, v6, S =>
    if v5 ≤ v6 then
    some S
    else
    (ldA S 79 (((40 * v1) + v2) + v6)).bind fun x30 =>
      (stA S 80 v6 x30).bind fun S32 =>
      X11_copy_L101 v1 v2 v3 v4 v5 n (v6 + 1) S32
def X11_copy_L138 (v3 : Int32) (v4 : Int32) (v5 : Int32) : Nat → Int32 → St → Option (St)
  | 0, _, _ => none
  | n + 1, v6, S =>
    if v5 ≤ v6 then
    some S
    else
    (ldA S 80 v6).bind fun x37 =>
      (stA S 79 (((40 * v3) + v4) + v6) x37).bind fun S39 =>
      X11_copy_L138 v3 v4 v5 n (v6 + 1) S39
def X11_copy (S : St) (a1 : Int32) (a2 : Int32) (a3 : Int32) (a4 : Int32) (a5 : Int32) : Option (Int32 × St) :=
  (X11_isSheet S a1).bind fun x2 =>
  if x2 = 0 then
  some ((-1), S)
  else
  (X11_isSheet S a3).bind fun x5 =>
    if x5 = 0 then
    some ((-1), S)
    else
    (ldA S 77 a1).bind fun x7 =>
      if x7 < 0 then
      some ((-11), S)
      else
      (ldA S 77 a3).bind fun x10 =>
        if 0 ≤ x10 then
        (ldA S 77 a1).bind fun x13 =>
          (ldA S 77 a3).bind fun x15 =>
          if x13 = x15 then
          if a5 < 0 then
            some ((-13), S)
            else
            (ldA S 77 a1).bind fun x19 =>
              (X11_finds S a1 x19 a2 a5).bind fun x22 =>
              if x22 < 0 then
              some ((-13), S)
              else
              (ldA S 77 a3).bind fun x24 =>
                (X11_finds S a3 x24 a4 a5).bind fun x27 =>
                if 0 ≤ x27 then
                (X11_copy_L101 a1 a2 a3 a4 a5 FU 0 S).bind fun S34 =>
                  (X11_copy_L138 a3 a4 a5 FU 0 S34).bind fun S41 =>
                  some (a5, S41)
                else
                some ((-13), S)
          else
          some ((-12), S)
        else
        some ((-11), S)
end
section
abbrev rm_X6_value : Room := { frames := 1, cells := 0, slots := 0, locals := 60 }
set_option maxHeartbeats 4000000 in
set_option maxRecDepth 100000 in
theorem c_X6_value (l : Launch) (E : En) (S : St) (a1 : Int32) (a2 : Int32) (r : Int32) (hf : X6_value S a1 a2 = some r) : Mi l E yX6_value cX6_value 3 (some .int) rm_X6_value [.ref (E.ad 2), .int a1, .int a2] S r S := by
  refine g_startI (cc := cX6_value) (n := 3) (by decide) (Nat.le_of_ble_eq_true rfl) ?_
  intro p e s m args below meth c Q H locs C kR hW ls hl
  obtain ⟨⟨hx, hb, hml, hown, hts⟩, hK, hT⟩ := id C
  have hl : lv_has ls 3 [(0, .ref (E.ad 2)), (1, .int a1), (2, .int a2)] := hl
  unfold X6_value at hf
  refine lv_aload_n hx hb dX6_value_0 rfl (lv_at hl 0 rfl) ?_
  refine g_get (ci := 6) (k := 3) (val := .ref (E.ad 3)) C g_us hW rfl rfl rfl (in_sid _ rfl) (by decide) f_RX6_18 rfl dX6_value_1 ?_
  refine lv_iload_n hx hb dX6_value_4 rfl (lv_at hl 1 rfl) ?_
  refine lv_bipush (v := 6) hx hb dX6_value_5 (by decide) ?_
  refine lv_imul hx hb dX6_value_7 ?_
  refine lv_iload_n hx hb dX6_value_8 rfl (lv_at hl 2 rfl) ?_
  refine lv_iadd hx hb dX6_value_9 ?_
  replace hf := bd_so hf
  obtain ⟨x1, h2, hf⟩ := hf
  refine g_iald C hW h2 dX6_value_10 ?_
  cases hf
  exact kR _ _ _ _ hW dX6_value_11

abbrev rm_X6_sings : Room := { frames := 2, cells := 0, slots := 0, locals := 82 }
set_option maxHeartbeats 4000000 in
set_option maxRecDepth 100000 in
theorem c_X6_sings (l : Launch) (E : En) (S : St) (a1 : Int32) (r : Int32) (hf : X6_sings S a1 = some r) : Mi l E yX6_sings cX6_sings 2 (some .boolean) rm_X6_sings [.ref (E.ad 2), .int a1] S r S := by
  refine g_startZ (cc := cX6_sings) (n := 2) (by decide) (Nat.le_of_ble_eq_true rfl) ?_
  intro p e s m args below meth c Q H locs C kR hW ls hl
  obtain ⟨⟨hx, hb, hml, hown, hts⟩, hK, hT⟩ := id C
  have hl : lv_has ls 2 [(0, .ref (E.ad 2)), (1, .int a1)] := hl
  unfold X6_sings at hf
  refine lv_aload_n hx hb dX6_sings_0 rfl (lv_at hl 0 rfl) ?_
  refine lv_iload_n hx hb dX6_sings_1 rfl (lv_at hl 1 rfl) ?_
  refine lv_iconst (v := 0) hx hb dX6_sings_2 (by decide) ?_
  replace hf := bd_so hf
  obtain ⟨x2, h1, hf⟩ := hf
  refine g_callVi (ci := 6) (As := [.int a1, .int 0]) (rest := []) C g_us hW hl.1 (c_X6_value l E S a1 0 _ h1) rfl rfl rfl (in_sid _ rfl) k_RX6_44 rfl ⟨rfl, rfl⟩ ⟨Nat.le_of_ble_eq_true rfl, Nat.le_of_ble_eq_true rfl⟩ ⟨Nat.zero_le _, Nat.zero_le _⟩ _ rfl (Nat.le_of_ble_eq_true rfl) dX6_sings_3 (fun H locs hW => ?_)
  refine lv_iconst (v := 4) hx hb dX6_sings_6 (by decide) ?_
  refine lv_icmp_ge (tgt := 14) hx hb dX6_sings_7 (by decide) (fun c3 => ?_) (fun c3 => ?_)
  · replace hf := ift_ hf c3
    refine lv_iconst (v := 0) hx hb dX6_sings_14 (by decide) ?_
    cases hf
    exact kR _ _ _ _ hW (Or.inl rfl) dX6_sings_15
  · replace hf := iff_ hf c3
    refine lv_iconst (v := 1) hx hb dX6_sings_10 (by decide) ?_
    refine lv_goto (tgt := 15) hx hb dX6_sings_11 (by decide) ?_
    cases hf
    exact kR _ _ _ _ hW (Or.inr rfl) dX6_sings_15

abbrev rm_X6_between : Room := { frames := 1, cells := 0, slots := 0, locals := 60 }
set_option maxHeartbeats 4000000 in
set_option maxRecDepth 100000 in
theorem c_X6_between (l : Launch) (E : En) (S : St) (a1 : Int32) (a2 : Int32) (r : Int32) (hf : X6_between S a1 a2 = some r) : Mi l E yX6_between cX6_between 3 (some .int) rm_X6_between [.ref (E.ad 2), .int a1, .int a2] S r S := by
  refine g_startI (cc := cX6_between) (n := 3) (by decide) (Nat.le_of_ble_eq_true rfl) ?_
  intro p e s m args below meth c Q H locs C kR hW ls hl
  obtain ⟨⟨hx, hb, hml, hown, hts⟩, hK, hT⟩ := id C
  have hl : lv_has ls 3 [(0, .ref (E.ad 2)), (1, .int a1), (2, .int a2)] := hl
  unfold X6_between at hf
  refine lv_aload_n hx hb dX6_between_0 rfl (lv_at hl 0 rfl) ?_
  refine g_get (ci := 6) (k := 4) (val := .ref (E.ad 4)) C g_us hW rfl rfl rfl (in_sid _ rfl) (by decide) f_RX6_22 rfl dX6_between_1 ?_
  refine lv_iload_n hx hb dX6_between_4 rfl (lv_at hl 1 rfl) ?_
  refine lv_bipush (v := 8) hx hb dX6_between_5 (by decide) ?_
  refine lv_imul hx hb dX6_between_7 ?_
  refine lv_iload_n hx hb dX6_between_8 rfl (lv_at hl 2 rfl) ?_
  refine lv_iadd hx hb dX6_between_9 ?_
  replace hf := bd_so hf
  obtain ⟨x1, h2, hf⟩ := hf
  refine g_iald C hW h2 dX6_between_10 ?_
  cases hf
  exact kR _ _ _ _ hW dX6_between_11

abbrev rm_X6_take : Room := { frames := 1, cells := 0, slots := 0, locals := 60 }
set_option maxHeartbeats 4000000 in
set_option maxRecDepth 100000 in
theorem c_X6_take (l : Launch) (E : En) (S : St) (a0 : Nat) (a1 : Nat) (S1 : St) (hf : X6_take S a0 a1 = some S1) : Mv l E yX6_take cX6_take 2 none rm_X6_take [.ref (E.ad a0), .ref (E.ad a1)] S S1 := by
  refine g_startV (cc := cX6_take) (n := 2) (by decide) (Nat.le_of_ble_eq_true rfl) ?_
  intro p e s m args below meth c Q H locs C kR hW ls hl
  obtain ⟨⟨hx, hb, hml, hown, hts⟩, hK, hT⟩ := id C
  have hl : lv_has ls 2 [(0, .ref (E.ad a0)), (1, .ref (E.ad a1))] := hl
  unfold X6_take at hf
  refine lv_aload_n hx hb dX6_take_0 rfl (lv_at hl 0 rfl) ?_
  refine lv_aload_n hx hb dX6_take_1 rfl (lv_at hl 1 rfl) ?_
  replace hf := bd_so hf
  obtain ⟨_, h1, hf⟩ := hf
  refine g_get (ci := 6) (k := 0) (val := .int (rI S a1 0)) C g_us hW rfl (if_so h1).1.1 (if_so h1).1.2.1 (if_so h1).1.2.2 (by decide) f_RX6_28 rfl dX6_take_2 ?_
  replace hf := bd_so hf
  obtain ⟨_, h2, hf⟩ := hf
  replace hf := bd_so hf
  obtain ⟨S3, h4, hf⟩ := hf
  refine g_putI (ci := 6) (k := 0) C g_us hW rfl (if_so h2).1.1 (if_so h2).1.2.1 (if_so h2).1.2.2 (by decide) f_RX6_28 rfl rfl rfl h4 dX6_take_5 (fun H locs hW => ?_)
  refine lv_aload_n hx hb dX6_take_8 rfl (lv_at hl 0 rfl) ?_
  refine lv_aload_n hx hb dX6_take_9 rfl (lv_at hl 1 rfl) ?_
  replace hf := bd_so hf
  obtain ⟨_, h5, hf⟩ := hf
  refine g_get (ci := 6) (k := 1) (val := .int (rI S3 a1 1)) C g_us hW rfl (if_so h5).1.1 (if_so h5).1.2.1 (if_so h5).1.2.2 (by decide) f_RX6_9 rfl dX6_take_10 ?_
  replace hf := bd_so hf
  obtain ⟨_, h6, hf⟩ := hf
  replace hf := bd_so hf
  obtain ⟨S7, h8, hf⟩ := hf
  refine g_putI (ci := 6) (k := 1) C g_us hW rfl (if_so h6).1.1 (if_so h6).1.2.1 (if_so h6).1.2.2 (by decide) f_RX6_9 rfl rfl rfl h8 dX6_take_13 (fun H locs hW => ?_)
  refine lv_aload_n hx hb dX6_take_16 rfl (lv_at hl 0 rfl) ?_
  refine lv_aload_n hx hb dX6_take_17 rfl (lv_at hl 1 rfl) ?_
  replace hf := bd_so hf
  obtain ⟨_, h9, hf⟩ := hf
  refine g_get (ci := 6) (k := 2) (val := .int (rI S7 a1 2)) C g_us hW rfl (if_so h9).1.1 (if_so h9).1.2.1 (if_so h9).1.2.2 (by decide) f_RX6_15 rfl dX6_take_18 ?_
  replace hf := bd_so hf
  obtain ⟨_, h10, hf⟩ := hf
  replace hf := bd_so hf
  obtain ⟨S11, h12, hf⟩ := hf
  refine g_putI (ci := 6) (k := 2) C g_us hW rfl (if_so h10).1.1 (if_so h10).1.2.1 (if_so h10).1.2.2 (by decide) f_RX6_15 rfl rfl rfl h12 dX6_take_21 (fun H locs hW => ?_)
  refine lv_aload_n hx hb dX6_take_24 rfl (lv_at hl 1 rfl) ?_
  replace hf := bd_so hf
  obtain ⟨_, h13, hf⟩ := hf
  refine g_get (ci := 6) (k := 3) (val := .ref (E.ad (a1 + 1))) C g_us hW rfl (if_so h13).1.1 (if_so h13).1.2.1 (if_so h13).1.2.2 (by decide) f_RX6_18 rfl dX6_take_25 ?_
  refine lv_iconst (v := 0) hx hb dX6_take_28 (by decide) ?_
  refine lv_aload_n hx hb dX6_take_29 rfl (lv_at hl 0 rfl) ?_
  replace hf := bd_so hf
  obtain ⟨_, h14, hf⟩ := hf
  refine g_get (ci := 6) (k := 3) (val := .ref (E.ad (a0 + 1))) C g_us hW rfl (if_so h14).1.1 (if_so h14).1.2.1 (if_so h14).1.2.2 (by decide) f_RX6_18 rfl dX6_take_30 ?_
  refine lv_iconst (v := 0) hx hb dX6_take_33 (by decide) ?_
  refine lv_aload_n hx hb dX6_take_34 rfl (lv_at hl 0 rfl) ?_
  replace hf := bd_so hf
  obtain ⟨_, h15, hf⟩ := hf
  refine g_get (ci := 6) (k := 3) (val := .ref (E.ad (a0 + 1))) C g_us hW rfl (if_so h15).1.1 (if_so h15).1.2.1 (if_so h15).1.2.2 (by decide) f_RX6_18 rfl dX6_take_35 ?_
  replace hf := bd_so hf
  obtain ⟨x16, h17, hf⟩ := hf
  refine g_alen C hW h17 dX6_take_38 ?_
  replace hf := bd_so hf
  obtain ⟨S18, h19, hf⟩ := hf
  refine g_copyI C g_us hW hl.1 k_RX6_31 (Nat.le_of_ble_eq_true rfl) (Nat.le_of_ble_eq_true rfl) h19 dX6_take_39 (fun H locs hW => ?_)
  refine lv_aload_n hx hb dX6_take_42 rfl (lv_at hl 1 rfl) ?_
  replace hf := bd_so hf
  obtain ⟨_, h20, hf⟩ := hf
  refine g_get (ci := 6) (k := 4) (val := .ref (E.ad (a1 + 2))) C g_us hW rfl (if_so h20).1.1 (if_so h20).1.2.1 (if_so h20).1.2.2 (by decide) f_RX6_22 rfl dX6_take_43 ?_
  refine lv_iconst (v := 0) hx hb dX6_take_46 (by decide) ?_
  refine lv_aload_n hx hb dX6_take_47 rfl (lv_at hl 0 rfl) ?_
  replace hf := bd_so hf
  obtain ⟨_, h21, hf⟩ := hf
  refine g_get (ci := 6) (k := 4) (val := .ref (E.ad (a0 + 2))) C g_us hW rfl (if_so h21).1.1 (if_so h21).1.2.1 (if_so h21).1.2.2 (by decide) f_RX6_22 rfl dX6_take_48 ?_
  refine lv_iconst (v := 0) hx hb dX6_take_51 (by decide) ?_
  refine lv_aload_n hx hb dX6_take_52 rfl (lv_at hl 0 rfl) ?_
  replace hf := bd_so hf
  obtain ⟨_, h22, hf⟩ := hf
  refine g_get (ci := 6) (k := 4) (val := .ref (E.ad (a0 + 2))) C g_us hW rfl (if_so h22).1.1 (if_so h22).1.2.1 (if_so h22).1.2.2 (by decide) f_RX6_22 rfl dX6_take_53 ?_
  replace hf := bd_so hf
  obtain ⟨x23, h24, hf⟩ := hf
  refine g_alen C hW h24 dX6_take_56 ?_
  replace hf := bd_so hf
  obtain ⟨S25, h26, hf⟩ := hf
  refine g_copyI C g_us hW hl.1 k_RX6_31 (Nat.le_of_ble_eq_true rfl) (Nat.le_of_ble_eq_true rfl) h26 dX6_take_57 (fun H locs hW => ?_)
  refine lv_aload_n hx hb dX6_take_60 rfl (lv_at hl 1 rfl) ?_
  replace hf := bd_so hf
  obtain ⟨_, h27, hf⟩ := hf
  refine g_get (ci := 6) (k := 5) (val := .ref (E.ad (a1 + 3))) C g_us hW rfl (if_so h27).1.1 (if_so h27).1.2.1 (if_so h27).1.2.2 (by decide) f_RX6_25 rfl dX6_take_61 ?_
  refine lv_iconst (v := 0) hx hb dX6_take_64 (by decide) ?_
  refine lv_aload_n hx hb dX6_take_65 rfl (lv_at hl 0 rfl) ?_
  replace hf := bd_so hf
  obtain ⟨_, h28, hf⟩ := hf
  refine g_get (ci := 6) (k := 5) (val := .ref (E.ad (a0 + 3))) C g_us hW rfl (if_so h28).1.1 (if_so h28).1.2.1 (if_so h28).1.2.2 (by decide) f_RX6_25 rfl dX6_take_66 ?_
  refine lv_iconst (v := 0) hx hb dX6_take_69 (by decide) ?_
  refine lv_aload_n hx hb dX6_take_70 rfl (lv_at hl 0 rfl) ?_
  replace hf := bd_so hf
  obtain ⟨_, h29, hf⟩ := hf
  refine g_get (ci := 6) (k := 5) (val := .ref (E.ad (a0 + 3))) C g_us hW rfl (if_so h29).1.1 (if_so h29).1.2.1 (if_so h29).1.2.2 (by decide) f_RX6_25 rfl dX6_take_71 ?_
  replace hf := bd_so hf
  obtain ⟨x30, h31, hf⟩ := hf
  refine g_alen C hW h31 dX6_take_74 ?_
  replace hf := bd_so hf
  obtain ⟨S32, h33, hf⟩ := hf
  refine g_copyI C g_us hW hl.1 k_RX6_31 (Nat.le_of_ble_eq_true rfl) (Nat.le_of_ble_eq_true rfl) h33 dX6_take_75 (fun H locs hW => ?_)
  cases hf
  exact kR _ _ _ _ hW dX6_take_78

abbrev rm_X5_take : Room := { frames := 1, cells := 0, slots := 0, locals := 60 }
set_option maxHeartbeats 4000000 in
set_option maxRecDepth 100000 in
theorem c_X5_take (l : Launch) (E : En) (S : St) (a0 : Nat) (a1 : Nat) (S1 : St) (hf : X5_take S a0 a1 = some S1) : Mv l E yX5_take cX5_take 2 none rm_X5_take [.ref (E.ad a0), .ref (E.ad a1)] S S1 := by
  refine g_startV (cc := cX5_take) (n := 2) (by decide) (Nat.le_of_ble_eq_true rfl) ?_
  intro p e s m args below meth c Q H locs C kR hW ls hl
  obtain ⟨⟨hx, hb, hml, hown, hts⟩, hK, hT⟩ := id C
  have hl : lv_has ls 2 [(0, .ref (E.ad a0)), (1, .ref (E.ad a1))] := hl
  unfold X5_take at hf
  refine lv_aload_n hx hb dX5_take_0 rfl (lv_at hl 0 rfl) ?_
  refine lv_aload_n hx hb dX5_take_1 rfl (lv_at hl 1 rfl) ?_
  replace hf := bd_so hf
  obtain ⟨_, h1, hf⟩ := hf
  refine g_get (ci := 5) (k := 0) (val := .int (rI S a1 0)) C g_us hW rfl (if_so h1).1.1 (if_so h1).1.2.1 (if_so h1).1.2.2 (by decide) f_RX5_15 rfl dX5_take_2 ?_
  replace hf := bd_so hf
  obtain ⟨_, h2, hf⟩ := hf
  replace hf := bd_so hf
  obtain ⟨S3, h4, hf⟩ := hf
  refine g_putI (ci := 5) (k := 0) C g_us hW rfl (if_so h2).1.1 (if_so h2).1.2.1 (if_so h2).1.2.2 (by decide) f_RX5_15 rfl rfl rfl h4 dX5_take_5 (fun H locs hW => ?_)
  refine lv_aload_n hx hb dX5_take_8 rfl (lv_at hl 1 rfl) ?_
  replace hf := bd_so hf
  obtain ⟨_, h5, hf⟩ := hf
  refine g_get (ci := 5) (k := 1) (val := .ref (E.ad (a1 + 1))) C g_us hW rfl (if_so h5).1.1 (if_so h5).1.2.1 (if_so h5).1.2.2 (by decide) f_RX5_9 rfl dX5_take_9 ?_
  refine lv_iconst (v := 0) hx hb dX5_take_12 (by decide) ?_
  refine lv_aload_n hx hb dX5_take_13 rfl (lv_at hl 0 rfl) ?_
  replace hf := bd_so hf
  obtain ⟨_, h6, hf⟩ := hf
  refine g_get (ci := 5) (k := 1) (val := .ref (E.ad (a0 + 1))) C g_us hW rfl (if_so h6).1.1 (if_so h6).1.2.1 (if_so h6).1.2.2 (by decide) f_RX5_9 rfl dX5_take_14 ?_
  refine lv_iconst (v := 0) hx hb dX5_take_17 (by decide) ?_
  refine lv_aload_n hx hb dX5_take_18 rfl (lv_at hl 0 rfl) ?_
  replace hf := bd_so hf
  obtain ⟨_, h7, hf⟩ := hf
  refine g_get (ci := 5) (k := 1) (val := .ref (E.ad (a0 + 1))) C g_us hW rfl (if_so h7).1.1 (if_so h7).1.2.1 (if_so h7).1.2.2 (by decide) f_RX5_9 rfl dX5_take_19 ?_
  replace hf := bd_so hf
  obtain ⟨x8, h9, hf⟩ := hf
  refine g_alen C hW h9 dX5_take_22 ?_
  replace hf := bd_so hf
  obtain ⟨S10, h11, hf⟩ := hf
  refine g_copyI C g_us hW hl.1 k_RX5_19 (Nat.le_of_ble_eq_true rfl) (Nat.le_of_ble_eq_true rfl) h11 dX5_take_23 (fun H locs hW => ?_)
  cases hf
  exact kR _ _ _ _ hW dX5_take_26

abbrev rm_X3_take : Room := { frames := 1, cells := 0, slots := 0, locals := 60 }
set_option maxHeartbeats 4000000 in
set_option maxRecDepth 100000 in
theorem c_X3_take (l : Launch) (E : En) (S : St) (a0 : Nat) (a1 : Nat) (S1 : St) (hf : X3_take S a0 a1 = some S1) : Mv l E yX3_take cX3_take 2 none rm_X3_take [.ref (E.ad a0), .ref (E.ad a1)] S S1 := by
  refine g_startV (cc := cX3_take) (n := 2) (by decide) (Nat.le_of_ble_eq_true rfl) ?_
  intro p e s m args below meth c Q H locs C kR hW ls hl
  obtain ⟨⟨hx, hb, hml, hown, hts⟩, hK, hT⟩ := id C
  have hl : lv_has ls 2 [(0, .ref (E.ad a0)), (1, .ref (E.ad a1))] := hl
  unfold X3_take at hf
  refine lv_aload_n hx hb dX3_take_0 rfl (lv_at hl 0 rfl) ?_
  refine lv_aload_n hx hb dX3_take_1 rfl (lv_at hl 1 rfl) ?_
  replace hf := bd_so hf
  obtain ⟨_, h1, hf⟩ := hf
  refine g_get (ci := 3) (k := 0) (val := .int (rI S a1 0)) C g_us hW rfl (if_so h1).1.1 (if_so h1).1.2.1 (if_so h1).1.2.2 (by decide) f_RX3_15 rfl dX3_take_2 ?_
  replace hf := bd_so hf
  obtain ⟨_, h2, hf⟩ := hf
  replace hf := bd_so hf
  obtain ⟨S3, h4, hf⟩ := hf
  refine g_putI (ci := 3) (k := 0) C g_us hW rfl (if_so h2).1.1 (if_so h2).1.2.1 (if_so h2).1.2.2 (by decide) f_RX3_15 rfl rfl rfl h4 dX3_take_5 (fun H locs hW => ?_)
  refine lv_aload_n hx hb dX3_take_8 rfl (lv_at hl 1 rfl) ?_
  replace hf := bd_so hf
  obtain ⟨_, h5, hf⟩ := hf
  refine g_get (ci := 3) (k := 1) (val := .ref (E.ad (a1 + 1))) C g_us hW rfl (if_so h5).1.1 (if_so h5).1.2.1 (if_so h5).1.2.2 (by decide) f_RX3_9 rfl dX3_take_9 ?_
  refine lv_iconst (v := 0) hx hb dX3_take_12 (by decide) ?_
  refine lv_aload_n hx hb dX3_take_13 rfl (lv_at hl 0 rfl) ?_
  replace hf := bd_so hf
  obtain ⟨_, h6, hf⟩ := hf
  refine g_get (ci := 3) (k := 1) (val := .ref (E.ad (a0 + 1))) C g_us hW rfl (if_so h6).1.1 (if_so h6).1.2.1 (if_so h6).1.2.2 (by decide) f_RX3_9 rfl dX3_take_14 ?_
  refine lv_iconst (v := 0) hx hb dX3_take_17 (by decide) ?_
  refine lv_aload_n hx hb dX3_take_18 rfl (lv_at hl 0 rfl) ?_
  replace hf := bd_so hf
  obtain ⟨_, h7, hf⟩ := hf
  refine g_get (ci := 3) (k := 1) (val := .ref (E.ad (a0 + 1))) C g_us hW rfl (if_so h7).1.1 (if_so h7).1.2.1 (if_so h7).1.2.2 (by decide) f_RX3_9 rfl dX3_take_19 ?_
  replace hf := bd_so hf
  obtain ⟨x8, h9, hf⟩ := hf
  refine g_alenL C hW h9 dX3_take_22 ?_
  replace hf := bd_so hf
  obtain ⟨S10, h11, hf⟩ := hf
  refine g_copyJ C g_us hW hl.1 k_RX3_19 (Nat.le_of_ble_eq_true rfl) (Nat.le_of_ble_eq_true rfl) h11 dX3_take_23 (fun H locs hW => ?_)
  cases hf
  exact kR _ _ _ _ hW dX3_take_26

abbrev rm_X1_take : Room := { frames := 2, cells := 0, slots := 0, locals := 81 }
set_option maxHeartbeats 4000000 in
set_option maxRecDepth 100000 in
theorem c_X1_take (l : Launch) (E : En) (S : St) (a0 : Nat) (a1 : Nat) (S1 : St) (hf : X1_take S a0 a1 = some S1) : Mv l E yX1_take cX1_take 2 none rm_X1_take [.ref (E.ad a0), .ref (E.ad a1)] S S1 := by
  refine g_startV (cc := cX1_take) (n := 2) (by decide) (Nat.le_of_ble_eq_true rfl) ?_
  intro p e s m args below meth c Q H locs C kR hW ls hl
  obtain ⟨⟨hx, hb, hml, hown, hts⟩, hK, hT⟩ := id C
  have hl : lv_has ls 2 [(0, .ref (E.ad a0)), (1, .ref (E.ad a1))] := hl
  unfold X1_take at hf
  refine lv_aload_n hx hb dX1_take_0 rfl (lv_at hl 0 rfl) ?_
  replace hf := bd_so hf
  obtain ⟨_, h1, hf⟩ := hf
  refine g_get (ci := 1) (k := 0) (val := .ref (E.ad (a0 + 1))) C g_us hW rfl (if_so h1).1.1 (if_so h1).1.2.1 (if_so h1).1.2.2 (by decide) f_RX1_12 rfl dX1_take_1 ?_
  refine lv_aload_n hx hb dX1_take_4 rfl (lv_at hl 1 rfl) ?_
  replace hf := bd_so hf
  obtain ⟨_, h2, hf⟩ := hf
  refine g_get (ci := 1) (k := 0) (val := .ref (E.ad (a1 + 1))) C g_us hW rfl (if_so h2).1.1 (if_so h2).1.2.1 (if_so h2).1.2.2 (by decide) f_RX1_12 rfl dX1_take_5 ?_
  replace hf := bd_so hf
  obtain ⟨_, h3, hf⟩ := hf
  replace hf := bd_so hf
  obtain ⟨S5, h4, hf⟩ := hf
  refine g_callVv (ci := 6) (As := [.ref (E.ad (a1 + 1))]) (rest := []) C g_us hW hl.1 (c_X6_take l E S (a0 + 1) (a1 + 1) _ h4) rfl (if_so h3).1.1 (if_so h3).1.2.1 (if_so h3).1.2.2 k_RX1_36 rfl ⟨rfl, rfl⟩ ⟨Nat.le_of_ble_eq_true rfl, Nat.le_of_ble_eq_true rfl⟩ ⟨Nat.zero_le _, Nat.zero_le _⟩ _ rfl (Nat.le_of_ble_eq_true rfl) dX1_take_8 (fun H locs hW => ?_)
  refine lv_aload_n hx hb dX1_take_11 rfl (lv_at hl 0 rfl) ?_
  replace hf := bd_so hf
  obtain ⟨_, h6, hf⟩ := hf
  refine g_get (ci := 1) (k := 1) (val := .ref (E.ad (a0 + 5))) C g_us hW rfl (if_so h6).1.1 (if_so h6).1.2.1 (if_so h6).1.2.2 (by decide) f_RX1_21 rfl dX1_take_12 ?_
  refine lv_aload_n hx hb dX1_take_15 rfl (lv_at hl 1 rfl) ?_
  replace hf := bd_so hf
  obtain ⟨_, h7, hf⟩ := hf
  refine g_get (ci := 1) (k := 1) (val := .ref (E.ad (a1 + 5))) C g_us hW rfl (if_so h7).1.1 (if_so h7).1.2.1 (if_so h7).1.2.2 (by decide) f_RX1_21 rfl dX1_take_16 ?_
  replace hf := bd_so hf
  obtain ⟨_, h8, hf⟩ := hf
  replace hf := bd_so hf
  obtain ⟨S10, h9, hf⟩ := hf
  refine g_callVv (ci := 5) (As := [.ref (E.ad (a1 + 5))]) (rest := []) C g_us hW hl.1 (c_X5_take l E S5 (a0 + 5) (a1 + 5) _ h9) rfl (if_so h8).1.1 (if_so h8).1.2.1 (if_so h8).1.2.2 k_RX1_40 rfl ⟨rfl, rfl⟩ ⟨Nat.le_of_ble_eq_true rfl, Nat.le_of_ble_eq_true rfl⟩ ⟨Nat.zero_le _, Nat.zero_le _⟩ _ rfl (Nat.le_of_ble_eq_true rfl) dX1_take_19 (fun H locs hW => ?_)
  refine lv_aload_n hx hb dX1_take_22 rfl (lv_at hl 0 rfl) ?_
  replace hf := bd_so hf
  obtain ⟨_, h11, hf⟩ := hf
  refine g_get (ci := 1) (k := 2) (val := .ref (E.ad (a0 + 7))) C g_us hW rfl (if_so h11).1.1 (if_so h11).1.2.1 (if_so h11).1.2.2 (by decide) f_RX1_28 rfl dX1_take_23 ?_
  refine lv_aload_n hx hb dX1_take_26 rfl (lv_at hl 1 rfl) ?_
  replace hf := bd_so hf
  obtain ⟨_, h12, hf⟩ := hf
  refine g_get (ci := 1) (k := 2) (val := .ref (E.ad (a1 + 7))) C g_us hW rfl (if_so h12).1.1 (if_so h12).1.2.1 (if_so h12).1.2.2 (by decide) f_RX1_28 rfl dX1_take_27 ?_
  replace hf := bd_so hf
  obtain ⟨_, h13, hf⟩ := hf
  replace hf := bd_so hf
  obtain ⟨S15, h14, hf⟩ := hf
  refine g_callVv (ci := 3) (As := [.ref (E.ad (a1 + 7))]) (rest := []) C g_us hW hl.1 (c_X3_take l E S10 (a0 + 7) (a1 + 7) _ h14) rfl (if_so h13).1.1 (if_so h13).1.2.1 (if_so h13).1.2.2 k_RX1_43 rfl ⟨rfl, rfl⟩ ⟨Nat.le_of_ble_eq_true rfl, Nat.le_of_ble_eq_true rfl⟩ ⟨Nat.zero_le _, Nat.zero_le _⟩ _ rfl (Nat.le_of_ble_eq_true rfl) dX1_take_30 (fun H locs hW => ?_)
  refine lv_aload_n hx hb dX1_take_33 rfl (lv_at hl 0 rfl) ?_
  refine lv_aload_n hx hb dX1_take_34 rfl (lv_at hl 1 rfl) ?_
  replace hf := bd_so hf
  obtain ⟨_, h16, hf⟩ := hf
  refine g_get (ci := 1) (k := 3) (val := .int (rI S15 a1 3)) C g_us hW rfl (if_so h16).1.1 (if_so h16).1.2.1 (if_so h16).1.2.2 (by decide) f_RX1_32 rfl dX1_take_35 ?_
  replace hf := bd_so hf
  obtain ⟨_, h17, hf⟩ := hf
  replace hf := bd_so hf
  obtain ⟨S18, h19, hf⟩ := hf
  refine g_putI (ci := 1) (k := 3) C g_us hW rfl (if_so h17).1.1 (if_so h17).1.2.1 (if_so h17).1.2.2 (by decide) f_RX1_32 rfl rfl rfl h19 dX1_take_38 (fun H locs hW => ?_)
  cases hf
  exact kR _ _ _ _ hW dX1_take_41

abbrev rm_X6_singers : Room := { frames := 3, cells := 0, slots := 0, locals := 103 }
set_option maxHeartbeats 4000000 in
set_option maxRecDepth 100000 in
theorem c_X6_singers (l : Launch) (E : En) (S : St) (r : Int32) (hf : X6_singers S  = some r) : Mi l E yX6_singers cX6_singers 3 (some .int) rm_X6_singers [.ref (E.ad 2)] S r S := by
  refine g_startI (cc := cX6_singers) (n := 3) (by decide) (Nat.le_of_ble_eq_true rfl) ?_
  intro p e s m args below meth c Q H locs C kR hW ls hl
  obtain ⟨⟨hx, hb, hml, hown, hts⟩, hK, hT⟩ := id C
  have hl : lv_has ls 3 [(0, .ref (E.ad 2))] := hl
  have X6_singers_L4_c : ∀ (S : St) (res : Int32) (n : Nat) (v1 : Int32) (v2 : Int32) (H : Heap) (locs : List Loc) (ls : Array Slot), Ww E S s H locs → lv_has ls 3 [(0, .ref (E.ad 2)), (1, .int v1), (2, .int v2)] → X6_singers_L4 S  n v1 v2 = some res → (∀ (w1 : Int32) (H : Heap) (locs : List Loc) (ls : Array Slot), some w1 = some res → Ww E S s H locs → lv_has ls 3 [(1, .int w1)] → W p l e rm_X6_singers s m args below meth c H locs 0 0 Q (F0 m 36 ls [])) → W p l e rm_X6_singers s m args below meth c H locs 0 0 Q (F0 m 4 ls []) := by
    intro S  res n
    induction n with
    | zero =>
      intro v1 v2 H locs ls hW hl hf
      cases hf
    | succ n ih =>
      intro v1 v2 H locs ls hW hl hf kE
      unfold X6_singers_L4 at hf
      refine lv_iload_n hx hb dX6_singers_4 rfl (lv_at hl 2 rfl) ?_
      refine lv_aload_n hx hb dX6_singers_5 rfl (lv_at hl 0 rfl) ?_
      refine g_get (ci := 6) (k := 0) (val := .int (rI S 2 0)) C g_us hW rfl rfl rfl (in_sid _ rfl) (by decide) f_RX6_28 rfl dX6_singers_6 ?_
      refine lv_icmp_ge (tgt := 36) hx hb dX6_singers_9 (by decide) (fun c1 => ?_) (fun c1 => ?_)
      · replace hf := ift_ hf c1
        exact kE _ _ _ _ hf hW (lv_sub hl [1] rfl)
      · replace hf := iff_ hf c1
        refine lv_iload_n hx hb dX6_singers_12 rfl (lv_at hl 1 rfl) ?_
        refine lv_aload_n hx hb dX6_singers_13 rfl (lv_at hl 0 rfl) ?_
        refine lv_iload_n hx hb dX6_singers_14 rfl (lv_at hl 2 rfl) ?_
        replace hf := bd_so hf
        obtain ⟨x3, h2, hf⟩ := hf
        refine g_callVi (ci := 6) (As := [.int v2]) (rest := [.int v1]) C g_us hW hl.1 (c_X6_sings l E S v2 _ h2) rfl rfl rfl (in_sid _ rfl) k_RX6_48 rfl ⟨rfl, rfl⟩ ⟨Nat.le_of_ble_eq_true rfl, Nat.le_of_ble_eq_true rfl⟩ ⟨Nat.zero_le _, Nat.zero_le _⟩ _ rfl (Nat.le_of_ble_eq_true rfl) dX6_singers_15 (fun H locs hW => ?_)
        replace hf := bd_so hf
        obtain ⟨x5, h6, hf⟩ := hf
        have J7 : ∀ (H : Heap) (locs : List Loc) (ls : Array Slot), Ww E S s H locs → lv_has ls 3 [(0, .ref (E.ad 2)), (2, .int v2)] → W p l e rm_X6_singers s m args below meth c H locs 0 0 Q (F0 m 28 ls [.int x5, .int v1]) := by
          intro H locs ls hW hl
          refine lv_ior hx hb dX6_singers_28 ?_
          refine lv_istore_n (lv' := [(1, .int (v1 ||| x5)), (0, .ref (E.ad 2)), (2, .int v2)]) hx hb dX6_singers_29 rfl hl (by decide) rfl (fun ls hl => ?_)
          refine lv_iinc (v := (v2 + 1)) (lv' := [(2, .int (v2 + 1)), (1, .int (v1 ||| x5)), (0, .ref (E.ad 2))]) hx hb dX6_singers_30 hl (k := 2) rfl rfl (by decide) rfl (fun ls hl => ?_)
          refine lv_goto (tgt := 4) hx hb dX6_singers_33 (by decide) ?_
          exact ih _ _ _ _ _ hW (lv_sub hl [2, 1, 0] rfl) hf kE
        clear hf
        have hf := h6
        clear h6
        refine lv_if_eq (tgt := 27) hx hb dX6_singers_18 (by decide) (fun c4 => ?_) (fun c4 => ?_)
        · replace hf := ift_ hf c4
          refine lv_iconst (v := 0) hx hb dX6_singers_27 (by decide) ?_
          cases hf
          exact J7 _ _ _ hW (lv_sub hl [0, 2] rfl)
        · replace hf := iff_ hf c4
          refine lv_iconst (v := 1) hx hb dX6_singers_21 (by decide) ?_
          refine lv_iload_n hx hb dX6_singers_22 rfl (lv_at hl 2 rfl) ?_
          refine lv_ishl hx hb dX6_singers_23 ?_
          refine lv_goto (tgt := 28) hx hb dX6_singers_24 (by decide) ?_
          cases hf
          exact J7 _ _ _ hW (lv_sub hl [0, 2] rfl)
  unfold X6_singers at hf
  refine lv_iconst (v := 0) hx hb dX6_singers_0 (by decide) ?_
  refine lv_istore_n (lv' := [(1, .int 0), (0, .ref (E.ad 2))]) hx hb dX6_singers_1 rfl hl (by decide) rfl (fun ls hl => ?_)
  refine lv_iconst (v := 0) hx hb dX6_singers_2 (by decide) ?_
  refine lv_istore_n (lv' := [(2, .int 0), (1, .int 0), (0, .ref (E.ad 2))]) hx hb dX6_singers_3 rfl hl (by decide) rfl (fun ls hl => ?_)
  replace hf := bd_so hf
  obtain ⟨x8, h9, hf⟩ := hf
  have J10 : ∀ (H : Heap) (locs : List Loc) (ls : Array Slot), Ww E S s H locs → lv_has ls 3 [(1, .int x8)] → W p l e rm_X6_singers s m args below meth c H locs 0 0 Q (F0 m 36 ls []) := by
    intro H locs ls hW hl
    refine lv_iload_n hx hb dX6_singers_36 rfl (lv_at hl 0 rfl) ?_
    cases hf
    exact kR _ _ _ _ hW dX6_singers_37
  exact X6_singers_L4_c _ _ FU _ _ _ _ _ hW (lv_sub hl [2, 1, 0] rfl) h9 (fun _ H locs ls e hW hl => by cases e; exact J10 H locs ls hW hl)

abbrev rm_X6_isCut : Room := { frames := 2, cells := 0, slots := 0, locals := 82 }
set_option maxHeartbeats 4000000 in
set_option maxRecDepth 100000 in
theorem c_X6_isCut (l : Launch) (E : En) (S : St) (a1 : Int32) (r : Int32) (hf : X6_isCut S a1 = some r) : Mi l E yX6_isCut cX6_isCut 2 (some .boolean) rm_X6_isCut [.ref (E.ad 2), .int a1] S r S := by
  refine g_startZ (cc := cX6_isCut) (n := 2) (by decide) (Nat.le_of_ble_eq_true rfl) ?_
  intro p e s m args below meth c Q H locs C kR hW ls hl
  obtain ⟨⟨hx, hb, hml, hown, hts⟩, hK, hT⟩ := id C
  have hl : lv_has ls 2 [(0, .ref (E.ad 2)), (1, .int a1)] := hl
  unfold X6_isCut at hf
  refine lv_aload_n hx hb dX6_isCut_0 rfl (lv_at hl 0 rfl) ?_
  refine lv_iload_n hx hb dX6_isCut_1 rfl (lv_at hl 1 rfl) ?_
  refine lv_iconst (v := 0) hx hb dX6_isCut_2 (by decide) ?_
  replace hf := bd_so hf
  obtain ⟨x2, h1, hf⟩ := hf
  refine g_callVi (ci := 6) (As := [.int a1, .int 0]) (rest := []) C g_us hW hl.1 (c_X6_value l E S a1 0 _ h1) rfl rfl rfl (in_sid _ rfl) k_RX6_44 rfl ⟨rfl, rfl⟩ ⟨Nat.le_of_ble_eq_true rfl, Nat.le_of_ble_eq_true rfl⟩ ⟨Nat.zero_le _, Nat.zero_le _⟩ _ rfl (Nat.le_of_ble_eq_true rfl) dX6_isCut_3 (fun H locs hW => ?_)
  refine lv_iconst (v := 5) hx hb dX6_isCut_6 (by decide) ?_
  refine lv_icmp_ne (tgt := 14) hx hb dX6_isCut_7 (by decide) (fun c3 => ?_) (fun c3 => ?_)
  · replace hf := iff_ hf c3
    refine lv_iconst (v := 0) hx hb dX6_isCut_14 (by decide) ?_
    cases hf
    exact kR _ _ _ _ hW (Or.inl rfl) dX6_isCut_15
  · replace hf := ift_ hf c3
    refine lv_iconst (v := 1) hx hb dX6_isCut_10 (by decide) ?_
    refine lv_goto (tgt := 15) hx hb dX6_isCut_11 (by decide) ?_
    cases hf
    exact kR _ _ _ _ hW (Or.inr rfl) dX6_isCut_15

abbrev rm_X6_reachedByAll : Room := { frames := 2, cells := 0, slots := 0, locals := 82 }
set_option maxHeartbeats 4000000 in
set_option maxRecDepth 100000 in
theorem c_X6_reachedByAll (l : Launch) (E : En) (S : St) (a1 : Int32) (a2 : Int32) (r : Int32) (hf : X6_reachedByAll S a1 a2 = some r) : Mi l E yX6_reachedByAll cX6_reachedByAll 4 (some .boolean) rm_X6_reachedByAll [.ref (E.ad 2), .int a1, .int a2] S r S := by
  refine g_startZ (cc := cX6_reachedByAll) (n := 4) (by decide) (Nat.le_of_ble_eq_true rfl) ?_
  intro p e s m args below meth c Q H locs C kR hW ls hl
  obtain ⟨⟨hx, hb, hml, hown, hts⟩, hK, hT⟩ := id C
  have hl : lv_has ls 4 [(0, .ref (E.ad 2)), (1, .int a1), (2, .int a2)] := hl
  have X6_reachedByAll_L2_c : ∀ (S : St) (v1 : Int32) (v2 : Int32) (res : (Unit) ⊕ (Int32)) (n : Nat) (v3 : Int32) (H : Heap) (locs : List Loc) (ls : Array Slot), Ww E S s H locs → lv_has ls 4 [(0, .ref (E.ad 2)), (1, .int v1), (2, .int v2), (3, .int v3)] → X6_reachedByAll_L2 S v1 v2 n v3 = some res → (∀ (H : Heap) (locs : List Loc) (ls : Array Slot), some (.inl ()) = some res → Ww E S s H locs → lv_has ls 4 [] → W p l e rm_X6_reachedByAll s m args below meth c H locs 0 0 Q (F0 m 35 ls [])) → (∀ (r0 : Int32) (H : Heap) (locs : List Loc) (pc : Nat) (ls : Array Slot), some (.inr r0) = some res → Ww E S s H locs → (r0 = 0 ∨ r0 = 1) → decode cX6_reachedByAll pc = .ok (.ireturn, 1) → W p l e rm_X6_reachedByAll s m args below meth c H locs 0 0 Q (F0 m pc ls [.int r0])) → W p l e rm_X6_reachedByAll s m args below meth c H locs 0 0 Q (F0 m 2 ls []) := by
    intro S v1 v2 res n
    induction n with
    | zero =>
      intro v3 H locs ls hW hl hf
      cases hf
    | succ n ih =>
      intro v3 H locs ls hW hl hf kE kR
      unfold X6_reachedByAll_L2 at hf
      refine lv_iload_n hx hb dX6_reachedByAll_2 rfl (lv_at hl 3 rfl) ?_
      refine lv_aload_n hx hb dX6_reachedByAll_3 rfl (lv_at hl 0 rfl) ?_
      refine g_get (ci := 6) (k := 0) (val := .int (rI S 2 0)) C g_us hW rfl rfl rfl (in_sid _ rfl) (by decide) f_RX6_28 rfl dX6_reachedByAll_4 ?_
      refine lv_icmp_ge (tgt := 35) hx hb dX6_reachedByAll_7 (by decide) (fun c1 => ?_) (fun c1 => ?_)
      · replace hf := ift_ hf c1
        exact kE  _ _ _ hf hW (lv_sub hl [] rfl)
      · replace hf := iff_ hf c1
        refine lv_iload_n hx hb dX6_reachedByAll_10 rfl (lv_at hl 2 rfl) ?_
        refine lv_iload_n hx hb dX6_reachedByAll_11 rfl (lv_at hl 3 rfl) ?_
        refine lv_ishr hx hb dX6_reachedByAll_12 ?_
        refine lv_iconst (v := 1) hx hb dX6_reachedByAll_13 (by decide) ?_
        refine lv_iand hx hb dX6_reachedByAll_14 ?_
        refine lv_if_eq (tgt := 29) hx hb dX6_reachedByAll_15 (by decide) (fun c2 => ?_) (fun c2 => ?_)
        · replace hf := ift_ hf c2
          refine lv_iinc (v := (v3 + 1)) (lv' := [(3, .int (v3 + 1)), (0, .ref (E.ad 2)), (1, .int v1), (2, .int v2)]) hx hb dX6_reachedByAll_29 hl (k := 3) rfl rfl (by decide) rfl (fun ls hl => ?_)
          refine lv_goto (tgt := 2) hx hb dX6_reachedByAll_32 (by decide) ?_
          exact ih _ _ _ _ hW (lv_sub hl [1, 2, 3, 0] rfl) hf kE kR
        · replace hf := iff_ hf c2
          refine lv_aload_n hx hb dX6_reachedByAll_18 rfl (lv_at hl 0 rfl) ?_
          refine lv_iload_n hx hb dX6_reachedByAll_19 rfl (lv_at hl 3 rfl) ?_
          refine lv_iload_n hx hb dX6_reachedByAll_20 rfl (lv_at hl 1 rfl) ?_
          replace hf := bd_so hf
          obtain ⟨x4, h3, hf⟩ := hf
          refine g_callVi (ci := 6) (As := [.int v3, .int v1]) (rest := []) C g_us hW hl.1 (c_X6_between l E S v3 v1 _ h3) rfl rfl rfl (in_sid _ rfl) k_RX6_54 rfl ⟨rfl, rfl⟩ ⟨Nat.le_of_ble_eq_true rfl, Nat.le_of_ble_eq_true rfl⟩ ⟨Nat.zero_le _, Nat.zero_le _⟩ _ rfl (Nat.le_of_ble_eq_true rfl) dX6_reachedByAll_21 (fun H locs hW => ?_)
          refine lv_if_ne (tgt := 29) hx hb dX6_reachedByAll_24 (by decide) (fun c5 => ?_) (fun c5 => ?_)
          · replace hf := iff_ hf c5
            refine lv_iinc (v := (v3 + 1)) (lv' := [(3, .int (v3 + 1)), (0, .ref (E.ad 2)), (1, .int v1), (2, .int v2)]) hx hb dX6_reachedByAll_29 hl (k := 3) rfl rfl (by decide) rfl (fun ls hl => ?_)
            refine lv_goto (tgt := 2) hx hb dX6_reachedByAll_32 (by decide) ?_
            exact ih _ _ _ _ hW (lv_sub hl [1, 2, 3, 0] rfl) hf kE kR
          · replace hf := ift_ hf c5
            refine lv_iconst (v := 0) hx hb dX6_reachedByAll_27 (by decide) ?_
            exact kR _ _ _ _ _ hf hW (Or.inl rfl) dX6_reachedByAll_28
  unfold X6_reachedByAll at hf
  refine lv_iconst (v := 0) hx hb dX6_reachedByAll_0 (by decide) ?_
  refine lv_istore_n (lv' := [(3, .int 0), (0, .ref (E.ad 2)), (1, .int a1), (2, .int a2)]) hx hb dX6_reachedByAll_1 rfl hl (by decide) rfl (fun ls hl => ?_)
  replace hf := bd_so hf
  obtain ⟨t, h6, hf⟩ := hf
  rcases t with u | x8
  · dsimp only at hf
    have J7 : ∀ (H : Heap) (locs : List Loc) (ls : Array Slot), Ww E S s H locs → lv_has ls 4 [] → W p l e rm_X6_reachedByAll s m args below meth c H locs 0 0 Q (F0 m 35 ls []) := by
      intro H locs ls hW hl
      refine lv_iconst (v := 1) hx hb dX6_reachedByAll_35 (by decide) ?_
      cases hf
      exact kR _ _ _ _ hW (Or.inr rfl) dX6_reachedByAll_36
    exact X6_reachedByAll_L2_c _ _ _ _ FU _ _ _ _ hW (lv_sub hl [1, 2, 3, 0] rfl) h6 (fun H locs ls e hW hl => by cases e; exact J7 H locs ls hW hl) (fun _ H locs pc ls e hW hz dd => by cases e)
  · dsimp only at hf
    refine X6_reachedByAll_L2_c _ _ _ _ FU _ _ _ _ hW (lv_sub hl [1, 2, 3, 0] rfl) h6 (fun H locs ls e hW hl => by cases e) (fun _ H locs pc ls e hW hz dd => ?_)
    cases e
    cases hf
    exact kR _ _ _ _ hW hz dd

abbrev rm_X6_shortestWire : Room := { frames := 2, cells := 0, slots := 0, locals := 82 }
set_option maxHeartbeats 4000000 in
set_option maxRecDepth 100000 in
theorem c_X6_shortestWire (l : Launch) (E : En) (S : St) (a1 : Int32) (a2 : Int32) (r : Int32) (hf : X6_shortestWire S a1 a2 = some r) : Mi l E yX6_shortestWire cX6_shortestWire 5 (some .int) rm_X6_shortestWire [.ref (E.ad 2), .int a1, .int a2] S r S := by
  refine g_startI (cc := cX6_shortestWire) (n := 5) (by decide) (Nat.le_of_ble_eq_true rfl) ?_
  intro p e s m args below meth c Q H locs C kR hW ls hl
  obtain ⟨⟨hx, hb, hml, hown, hts⟩, hK, hT⟩ := id C
  have hl : lv_has ls 5 [(0, .ref (E.ad 2)), (1, .int a1), (2, .int a2)] := hl
  have X6_shortestWire_L7_c : ∀ (S : St) (v1 : Int32) (v2 : Int32) (res : Int32) (n : Nat) (v3 : Int32) (v4 : Int32) (H : Heap) (locs : List Loc) (ls : Array Slot), Ww E S s H locs → lv_has ls 5 [(0, .ref (E.ad 2)), (1, .int v1), (2, .int v2), (3, .int v3), (4, .int v4)] → X6_shortestWire_L7 S v1 v2 n v3 v4 = some res → (∀ (w3 : Int32) (H : Heap) (locs : List Loc) (ls : Array Slot), some w3 = some res → Ww E S s H locs → lv_has ls 5 [(3, .int w3)] → W p l e rm_X6_shortestWire s m args below meth c H locs 0 0 Q (F0 m 43 ls [])) → W p l e rm_X6_shortestWire s m args below meth c H locs 0 0 Q (F0 m 7 ls []) := by
    intro S v1 v2 res n
    induction n with
    | zero =>
      intro v3 v4 H locs ls hW hl hf
      cases hf
    | succ n ih =>
      intro v3 v4 H locs ls hW hl hf kE
      unfold X6_shortestWire_L7 at hf
      refine lv_iload hx hb dX6_shortestWire_7 (lv_at hl 4 rfl) ?_
      refine lv_aload_n hx hb dX6_shortestWire_9 rfl (lv_at hl 0 rfl) ?_
      refine g_get (ci := 6) (k := 0) (val := .int (rI S 2 0)) C g_us hW rfl rfl rfl (in_sid _ rfl) (by decide) f_RX6_28 rfl dX6_shortestWire_10 ?_
      refine lv_icmp_ge (tgt := 43) hx hb dX6_shortestWire_13 (by decide) (fun c1 => ?_) (fun c1 => ?_)
      · replace hf := ift_ hf c1
        exact kE _ _ _ _ hf hW (lv_sub hl [3] rfl)
      · replace hf := iff_ hf c1
        refine lv_iload_n hx hb dX6_shortestWire_16 rfl (lv_at hl 2 rfl) ?_
        refine lv_iload hx hb dX6_shortestWire_17 (lv_at hl 4 rfl) ?_
        refine lv_ishr hx hb dX6_shortestWire_19 ?_
        refine lv_iconst (v := 1) hx hb dX6_shortestWire_20 (by decide) ?_
        refine lv_iand hx hb dX6_shortestWire_21 ?_
        replace hf := bd_so hf
        obtain ⟨x3, h4, hf⟩ := hf
        have J5 : ∀ (H : Heap) (locs : List Loc) (ls : Array Slot), Ww E S s H locs → lv_has ls 5 [(0, .ref (E.ad 2)), (1, .int v1), (2, .int v2), (3, .int x3), (4, .int v4)] → W p l e rm_X6_shortestWire s m args below meth c H locs 0 0 Q (F0 m 37 ls []) := by
          intro H locs ls hW hl
          refine lv_iinc (v := (v4 + 1)) (lv' := [(4, .int (v4 + 1)), (0, .ref (E.ad 2)), (1, .int v1), (2, .int v2), (3, .int x3)]) hx hb dX6_shortestWire_37 hl (k := 4) rfl rfl (by decide) rfl (fun ls hl => ?_)
          refine lv_goto (tgt := 7) hx hb dX6_shortestWire_40 (by decide) ?_
          exact ih _ _ _ _ _ hW (lv_sub hl [1, 2, 3, 4, 0] rfl) hf kE
        clear hf
        have hf := h4
        clear h4
        refine lv_if_eq (tgt := 37) hx hb dX6_shortestWire_22 (by decide) (fun c2 => ?_) (fun c2 => ?_)
        · replace hf := ift_ hf c2
          cases hf
          exact J5 _ _ _ hW (lv_sub hl [0, 1, 2, 3, 4] rfl)
        · replace hf := iff_ hf c2
          refine lv_iload_n hx hb dX6_shortestWire_25 rfl (lv_at hl 3 rfl) ?_
          refine lv_aload_n hx hb dX6_shortestWire_26 rfl (lv_at hl 0 rfl) ?_
          refine lv_iload hx hb dX6_shortestWire_27 (lv_at hl 4 rfl) ?_
          refine lv_iload_n hx hb dX6_shortestWire_29 rfl (lv_at hl 1 rfl) ?_
          replace hf := bd_so hf
          obtain ⟨x7, h6, hf⟩ := hf
          refine g_callVi (ci := 6) (As := [.int v4, .int v1]) (rest := [.int v3]) C g_us hW hl.1 (c_X6_between l E S v4 v1 _ h6) rfl rfl rfl (in_sid _ rfl) k_RX6_54 rfl ⟨rfl, rfl⟩ ⟨Nat.le_of_ble_eq_true rfl, Nat.le_of_ble_eq_true rfl⟩ ⟨Nat.zero_le _, Nat.zero_le _⟩ _ rfl (Nat.le_of_ble_eq_true rfl) dX6_shortestWire_30 (fun H locs hW => ?_)
          refine g_min C g_us hl.1 k_RX6_71 (Nat.le_of_ble_eq_true rfl) (Nat.le_of_ble_eq_true rfl) ⟨Nat.zero_le _, Nat.zero_le _⟩ dX6_shortestWire_33 ?_
          refine lv_istore_n (lv' := [(3, .int (if x7 < v3 then x7 else v3)), (0, .ref (E.ad 2)), (1, .int v1), (2, .int v2), (4, .int v4)]) hx hb dX6_shortestWire_36 rfl hl (by decide) rfl (fun ls hl => ?_)
          cases hf
          exact J5 _ _ _ hW (lv_sub hl [1, 2, 3, 0, 4] rfl)
  unfold X6_shortestWire at hf
  refine lv_sipush (v := 400) hx hb dX6_shortestWire_0 (by decide) ?_
  refine lv_istore_n (lv' := [(3, .int 400), (0, .ref (E.ad 2)), (1, .int a1), (2, .int a2)]) hx hb dX6_shortestWire_3 rfl hl (by decide) rfl (fun ls hl => ?_)
  refine lv_iconst (v := 0) hx hb dX6_shortestWire_4 (by decide) ?_
  refine lv_istore (lv' := [(4, .int 0), (3, .int 400), (0, .ref (E.ad 2)), (1, .int a1), (2, .int a2)]) hx hb dX6_shortestWire_5 hl (by decide) rfl (fun ls hl => ?_)
  replace hf := bd_so hf
  obtain ⟨x8, h9, hf⟩ := hf
  have J10 : ∀ (H : Heap) (locs : List Loc) (ls : Array Slot), Ww E S s H locs → lv_has ls 5 [(3, .int x8)] → W p l e rm_X6_shortestWire s m args below meth c H locs 0 0 Q (F0 m 43 ls []) := by
    intro H locs ls hW hl
    refine lv_iload_n hx hb dX6_shortestWire_43 rfl (lv_at hl 0 rfl) ?_
    cases hf
    exact kR _ _ _ _ hW dX6_shortestWire_44
  exact X6_shortestWire_L7_c _ _ _ _ FU _ _ _ _ _ hW (lv_sub hl [2, 3, 4, 1, 0] rfl) h9 (fun _ H locs ls e hW hl => by cases e; exact J10 H locs ls hW hl)

abbrev rm_X3_add : Room := { frames := 1, cells := 0, slots := 0, locals := 60 }
set_option maxHeartbeats 4000000 in
set_option maxRecDepth 100000 in
theorem c_X3_add (l : Launch) (E : En) (S : St) (a1 : Int64) (r : Int32) (S1 : St) (hf : X3_add S a1 = some (r, S1)) : Mi l E yX3_add cX3_add 3 (some .int) rm_X3_add [.ref (E.ad 8), .long a1] S r S1 := by
  refine g_startI (cc := cX3_add) (n := 3) (by decide) (Nat.le_of_ble_eq_true rfl) ?_
  intro p e s m args below meth c Q H locs C kR hW ls hl
  obtain ⟨⟨hx, hb, hml, hown, hts⟩, hK, hT⟩ := id C
  have hl : lv_has ls 3 [(0, .ref (E.ad 8)), (1, .long a1)] := hl
  unfold X3_add at hf
  refine lv_aload_n hx hb dX3_add_0 rfl (lv_at hl 0 rfl) ?_
  refine g_get (ci := 3) (k := 1) (val := .ref (E.ad 9)) C g_us hW rfl rfl rfl (in_sid _ rfl) (by decide) f_RX3_9 rfl dX3_add_1 ?_
  refine lv_aload_n hx hb dX3_add_4 rfl (lv_at hl 0 rfl) ?_
  refine g_get (ci := 3) (k := 0) (val := .int (rI S 8 0)) C g_us hW rfl rfl rfl (in_sid _ rfl) (by decide) f_RX3_15 rfl dX3_add_5 ?_
  refine lv_lload_n hx hb dX3_add_8 rfl (lv_at hl 1 rfl) ?_
  replace hf := bd_so hf
  obtain ⟨S1, h2, hf⟩ := hf
  refine g_last C hW h2 dX3_add_9 (fun H locs hW => ?_)
  refine lv_aload_n hx hb dX3_add_10 rfl (lv_at hl 0 rfl) ?_
  refine lv_dup hx hb dX3_add_11 rfl ?_
  refine g_get (ci := 3) (k := 0) (val := .int (rI S1 8 0)) C g_us hW rfl rfl rfl (in_sid _ rfl) (by decide) f_RX3_15 rfl dX3_add_12 ?_
  refine lv_iconst (v := 1) hx hb dX3_add_15 (by decide) ?_
  refine lv_iadd hx hb dX3_add_16 ?_
  replace hf := bd_so hf
  obtain ⟨S3, h4, hf⟩ := hf
  refine g_putI (ci := 3) (k := 0) C g_us hW rfl rfl rfl (in_sid _ rfl) (by decide) f_RX3_15 rfl rfl rfl h4 dX3_add_17 (fun H locs hW => ?_)
  refine lv_aload_n hx hb dX3_add_20 rfl (lv_at hl 0 rfl) ?_
  refine g_get (ci := 3) (k := 0) (val := .int (rI S3 8 0)) C g_us hW rfl rfl rfl (in_sid _ rfl) (by decide) f_RX3_15 rfl dX3_add_21 ?_
  refine lv_iconst (v := 1) hx hb dX3_add_24 (by decide) ?_
  refine lv_isub hx hb dX3_add_25 ?_
  cases hf
  exact kR _ _ _ _ hW dX3_add_26

abbrev rm_J6_bitCount_0f7a4 : Room := { frames := 1, cells := 0, slots := 0, locals := 60 }
set_option maxHeartbeats 4000000 in
set_option maxRecDepth 100000 in
theorem c_J6_bitCount_0f7a4 (l : Launch) (E : En) (S : St) (a0 : Int32) (r : Int32) (hf : J6_bitCount_0f7a4 S a0 = some r) : Mi l E yJ6_bitCount_0f7a4 cJ6_bitCount_0f7a4 1 (some .int) rm_J6_bitCount_0f7a4 [.int a0] S r S := by
  refine g_startI (cc := cJ6_bitCount_0f7a4) (n := 1) (by decide) (Nat.le_of_ble_eq_true rfl) ?_
  intro p e s m args below meth c Q H locs C kR hW ls hl
  obtain ⟨⟨hx, hb, hml, hown, hts⟩, hK, hT⟩ := id C
  have hl : lv_has ls 1 [(0, .int a0)] := hl
  unfold J6_bitCount_0f7a4 at hf
  refine lv_iload_n hx hb dJ6_bitCount_0f7a4_0 rfl (lv_at hl 0 rfl) ?_
  refine lv_iload_n hx hb dJ6_bitCount_0f7a4_1 rfl (lv_at hl 0 rfl) ?_
  refine lv_iconst (v := 1) hx hb dJ6_bitCount_0f7a4_2 (by decide) ?_
  refine lv_iushr (v := ((a0 : Int32).toUInt32 >>> ((1 : Int32).toUInt32 &&& Int32.toUInt32 31)).toInt32) hx hb dJ6_bitCount_0f7a4_3 rfl ?_
  refine lv_ldcw hx hb hown (hts _ (g_us _ q_RJ6_265)) dJ6_bitCount_0f7a4_4 ?_
  refine lv_iand hx hb dJ6_bitCount_0f7a4_7 ?_
  refine lv_isub hx hb dJ6_bitCount_0f7a4_8 ?_
  refine lv_istore_n (lv' := [(0, .int (a0 - (((a0 : Int32).toUInt32 >>> ((1 : Int32).toUInt32 &&& Int32.toUInt32 31)).toInt32 &&& 1431655765)))]) hx hb dJ6_bitCount_0f7a4_9 rfl hl (by decide) rfl (fun ls hl => ?_)
  refine lv_iload_n hx hb dJ6_bitCount_0f7a4_10 rfl (lv_at hl 0 rfl) ?_
  refine lv_ldcw hx hb hown (hts _ (g_us _ q_RJ6_266)) dJ6_bitCount_0f7a4_11 ?_
  refine lv_iand hx hb dJ6_bitCount_0f7a4_14 ?_
  refine lv_iload_n hx hb dJ6_bitCount_0f7a4_15 rfl (lv_at hl 0 rfl) ?_
  refine lv_iconst (v := 2) hx hb dJ6_bitCount_0f7a4_16 (by decide) ?_
  refine lv_iushr (v := (((a0 - (((a0 : Int32).toUInt32 >>> ((1 : Int32).toUInt32 &&& Int32.toUInt32 31)).toInt32 &&& 1431655765)) : Int32).toUInt32 >>> ((2 : Int32).toUInt32 &&& Int32.toUInt32 31)).toInt32) hx hb dJ6_bitCount_0f7a4_17 rfl ?_
  refine lv_ldcw hx hb hown (hts _ (g_us _ q_RJ6_266)) dJ6_bitCount_0f7a4_18 ?_
  refine lv_iand hx hb dJ6_bitCount_0f7a4_21 ?_
  refine lv_iadd hx hb dJ6_bitCount_0f7a4_22 ?_
  refine lv_istore_n (lv' := [(0, .int (((a0 - (((a0 : Int32).toUInt32 >>> ((1 : Int32).toUInt32 &&& Int32.toUInt32 31)).toInt32 &&& 1431655765)) &&& 858993459) + ((((a0 - (((a0 : Int32).toUInt32 >>> ((1 : Int32).toUInt32 &&& Int32.toUInt32 31)).toInt32 &&& 1431655765)) : Int32).toUInt32 >>> ((2 : Int32).toUInt32 &&& Int32.toUInt32 31)).toInt32 &&& 858993459)))]) hx hb dJ6_bitCount_0f7a4_23 rfl hl (by decide) rfl (fun ls hl => ?_)
  refine lv_iload_n hx hb dJ6_bitCount_0f7a4_24 rfl (lv_at hl 0 rfl) ?_
  refine lv_iload_n hx hb dJ6_bitCount_0f7a4_25 rfl (lv_at hl 0 rfl) ?_
  refine lv_iconst (v := 4) hx hb dJ6_bitCount_0f7a4_26 (by decide) ?_
  refine lv_iushr (v := (((((a0 - (((a0 : Int32).toUInt32 >>> ((1 : Int32).toUInt32 &&& Int32.toUInt32 31)).toInt32 &&& 1431655765)) &&& 858993459) + ((((a0 - (((a0 : Int32).toUInt32 >>> ((1 : Int32).toUInt32 &&& Int32.toUInt32 31)).toInt32 &&& 1431655765)) : Int32).toUInt32 >>> ((2 : Int32).toUInt32 &&& Int32.toUInt32 31)).toInt32 &&& 858993459)) : Int32).toUInt32 >>> ((4 : Int32).toUInt32 &&& Int32.toUInt32 31)).toInt32) hx hb dJ6_bitCount_0f7a4_27 rfl ?_
  refine lv_iadd hx hb dJ6_bitCount_0f7a4_28 ?_
  refine lv_ldcw hx hb hown (hts _ (g_us _ q_RJ6_267)) dJ6_bitCount_0f7a4_29 ?_
  refine lv_iand hx hb dJ6_bitCount_0f7a4_32 ?_
  refine lv_istore_n (lv' := [(0, .int (((((a0 - (((a0 : Int32).toUInt32 >>> ((1 : Int32).toUInt32 &&& Int32.toUInt32 31)).toInt32 &&& 1431655765)) &&& 858993459) + ((((a0 - (((a0 : Int32).toUInt32 >>> ((1 : Int32).toUInt32 &&& Int32.toUInt32 31)).toInt32 &&& 1431655765)) : Int32).toUInt32 >>> ((2 : Int32).toUInt32 &&& Int32.toUInt32 31)).toInt32 &&& 858993459)) + (((((a0 - (((a0 : Int32).toUInt32 >>> ((1 : Int32).toUInt32 &&& Int32.toUInt32 31)).toInt32 &&& 1431655765)) &&& 858993459) + ((((a0 - (((a0 : Int32).toUInt32 >>> ((1 : Int32).toUInt32 &&& Int32.toUInt32 31)).toInt32 &&& 1431655765)) : Int32).toUInt32 >>> ((2 : Int32).toUInt32 &&& Int32.toUInt32 31)).toInt32 &&& 858993459)) : Int32).toUInt32 >>> ((4 : Int32).toUInt32 &&& Int32.toUInt32 31)).toInt32) &&& 252645135))]) hx hb dJ6_bitCount_0f7a4_33 rfl hl (by decide) rfl (fun ls hl => ?_)
  refine lv_iload_n hx hb dJ6_bitCount_0f7a4_34 rfl (lv_at hl 0 rfl) ?_
  refine lv_iload_n hx hb dJ6_bitCount_0f7a4_35 rfl (lv_at hl 0 rfl) ?_
  refine lv_bipush (v := 8) hx hb dJ6_bitCount_0f7a4_36 (by decide) ?_
  refine lv_iushr (v := (((((((a0 - (((a0 : Int32).toUInt32 >>> ((1 : Int32).toUInt32 &&& Int32.toUInt32 31)).toInt32 &&& 1431655765)) &&& 858993459) + ((((a0 - (((a0 : Int32).toUInt32 >>> ((1 : Int32).toUInt32 &&& Int32.toUInt32 31)).toInt32 &&& 1431655765)) : Int32).toUInt32 >>> ((2 : Int32).toUInt32 &&& Int32.toUInt32 31)).toInt32 &&& 858993459)) + (((((a0 - (((a0 : Int32).toUInt32 >>> ((1 : Int32).toUInt32 &&& Int32.toUInt32 31)).toInt32 &&& 1431655765)) &&& 858993459) + ((((a0 - (((a0 : Int32).toUInt32 >>> ((1 : Int32).toUInt32 &&& Int32.toUInt32 31)).toInt32 &&& 1431655765)) : Int32).toUInt32 >>> ((2 : Int32).toUInt32 &&& Int32.toUInt32 31)).toInt32 &&& 858993459)) : Int32).toUInt32 >>> ((4 : Int32).toUInt32 &&& Int32.toUInt32 31)).toInt32) &&& 252645135) : Int32).toUInt32 >>> ((8 : Int32).toUInt32 &&& Int32.toUInt32 31)).toInt32) hx hb dJ6_bitCount_0f7a4_38 rfl ?_
  refine lv_iadd hx hb dJ6_bitCount_0f7a4_39 ?_
  refine lv_istore_n (lv' := [(0, .int ((((((a0 - (((a0 : Int32).toUInt32 >>> ((1 : Int32).toUInt32 &&& Int32.toUInt32 31)).toInt32 &&& 1431655765)) &&& 858993459) + ((((a0 - (((a0 : Int32).toUInt32 >>> ((1 : Int32).toUInt32 &&& Int32.toUInt32 31)).toInt32 &&& 1431655765)) : Int32).toUInt32 >>> ((2 : Int32).toUInt32 &&& Int32.toUInt32 31)).toInt32 &&& 858993459)) + (((((a0 - (((a0 : Int32).toUInt32 >>> ((1 : Int32).toUInt32 &&& Int32.toUInt32 31)).toInt32 &&& 1431655765)) &&& 858993459) + ((((a0 - (((a0 : Int32).toUInt32 >>> ((1 : Int32).toUInt32 &&& Int32.toUInt32 31)).toInt32 &&& 1431655765)) : Int32).toUInt32 >>> ((2 : Int32).toUInt32 &&& Int32.toUInt32 31)).toInt32 &&& 858993459)) : Int32).toUInt32 >>> ((4 : Int32).toUInt32 &&& Int32.toUInt32 31)).toInt32) &&& 252645135) + (((((((a0 - (((a0 : Int32).toUInt32 >>> ((1 : Int32).toUInt32 &&& Int32.toUInt32 31)).toInt32 &&& 1431655765)) &&& 858993459) + ((((a0 - (((a0 : Int32).toUInt32 >>> ((1 : Int32).toUInt32 &&& Int32.toUInt32 31)).toInt32 &&& 1431655765)) : Int32).toUInt32 >>> ((2 : Int32).toUInt32 &&& Int32.toUInt32 31)).toInt32 &&& 858993459)) + (((((a0 - (((a0 : Int32).toUInt32 >>> ((1 : Int32).toUInt32 &&& Int32.toUInt32 31)).toInt32 &&& 1431655765)) &&& 858993459) + ((((a0 - (((a0 : Int32).toUInt32 >>> ((1 : Int32).toUInt32 &&& Int32.toUInt32 31)).toInt32 &&& 1431655765)) : Int32).toUInt32 >>> ((2 : Int32).toUInt32 &&& Int32.toUInt32 31)).toInt32 &&& 858993459)) : Int32).toUInt32 >>> ((4 : Int32).toUInt32 &&& Int32.toUInt32 31)).toInt32) &&& 252645135) : Int32).toUInt32 >>> ((8 : Int32).toUInt32 &&& Int32.toUInt32 31)).toInt32))]) hx hb dJ6_bitCount_0f7a4_40 rfl hl (by decide) rfl (fun ls hl => ?_)
  refine lv_iload_n hx hb dJ6_bitCount_0f7a4_41 rfl (lv_at hl 0 rfl) ?_
  refine lv_iload_n hx hb dJ6_bitCount_0f7a4_42 rfl (lv_at hl 0 rfl) ?_
  refine lv_bipush (v := 16) hx hb dJ6_bitCount_0f7a4_43 (by decide) ?_
  refine lv_iushr (v := ((((((((a0 - (((a0 : Int32).toUInt32 >>> ((1 : Int32).toUInt32 &&& Int32.toUInt32 31)).toInt32 &&& 1431655765)) &&& 858993459) + ((((a0 - (((a0 : Int32).toUInt32 >>> ((1 : Int32).toUInt32 &&& Int32.toUInt32 31)).toInt32 &&& 1431655765)) : Int32).toUInt32 >>> ((2 : Int32).toUInt32 &&& Int32.toUInt32 31)).toInt32 &&& 858993459)) + (((((a0 - (((a0 : Int32).toUInt32 >>> ((1 : Int32).toUInt32 &&& Int32.toUInt32 31)).toInt32 &&& 1431655765)) &&& 858993459) + ((((a0 - (((a0 : Int32).toUInt32 >>> ((1 : Int32).toUInt32 &&& Int32.toUInt32 31)).toInt32 &&& 1431655765)) : Int32).toUInt32 >>> ((2 : Int32).toUInt32 &&& Int32.toUInt32 31)).toInt32 &&& 858993459)) : Int32).toUInt32 >>> ((4 : Int32).toUInt32 &&& Int32.toUInt32 31)).toInt32) &&& 252645135) + (((((((a0 - (((a0 : Int32).toUInt32 >>> ((1 : Int32).toUInt32 &&& Int32.toUInt32 31)).toInt32 &&& 1431655765)) &&& 858993459) + ((((a0 - (((a0 : Int32).toUInt32 >>> ((1 : Int32).toUInt32 &&& Int32.toUInt32 31)).toInt32 &&& 1431655765)) : Int32).toUInt32 >>> ((2 : Int32).toUInt32 &&& Int32.toUInt32 31)).toInt32 &&& 858993459)) + (((((a0 - (((a0 : Int32).toUInt32 >>> ((1 : Int32).toUInt32 &&& Int32.toUInt32 31)).toInt32 &&& 1431655765)) &&& 858993459) + ((((a0 - (((a0 : Int32).toUInt32 >>> ((1 : Int32).toUInt32 &&& Int32.toUInt32 31)).toInt32 &&& 1431655765)) : Int32).toUInt32 >>> ((2 : Int32).toUInt32 &&& Int32.toUInt32 31)).toInt32 &&& 858993459)) : Int32).toUInt32 >>> ((4 : Int32).toUInt32 &&& Int32.toUInt32 31)).toInt32) &&& 252645135) : Int32).toUInt32 >>> ((8 : Int32).toUInt32 &&& Int32.toUInt32 31)).toInt32) : Int32).toUInt32 >>> ((16 : Int32).toUInt32 &&& Int32.toUInt32 31)).toInt32) hx hb dJ6_bitCount_0f7a4_45 rfl ?_
  refine lv_iadd hx hb dJ6_bitCount_0f7a4_46 ?_
  refine lv_istore_n (lv' := [(0, .int (((((((a0 - (((a0 : Int32).toUInt32 >>> ((1 : Int32).toUInt32 &&& Int32.toUInt32 31)).toInt32 &&& 1431655765)) &&& 858993459) + ((((a0 - (((a0 : Int32).toUInt32 >>> ((1 : Int32).toUInt32 &&& Int32.toUInt32 31)).toInt32 &&& 1431655765)) : Int32).toUInt32 >>> ((2 : Int32).toUInt32 &&& Int32.toUInt32 31)).toInt32 &&& 858993459)) + (((((a0 - (((a0 : Int32).toUInt32 >>> ((1 : Int32).toUInt32 &&& Int32.toUInt32 31)).toInt32 &&& 1431655765)) &&& 858993459) + ((((a0 - (((a0 : Int32).toUInt32 >>> ((1 : Int32).toUInt32 &&& Int32.toUInt32 31)).toInt32 &&& 1431655765)) : Int32).toUInt32 >>> ((2 : Int32).toUInt32 &&& Int32.toUInt32 31)).toInt32 &&& 858993459)) : Int32).toUInt32 >>> ((4 : Int32).toUInt32 &&& Int32.toUInt32 31)).toInt32) &&& 252645135) + (((((((a0 - (((a0 : Int32).toUInt32 >>> ((1 : Int32).toUInt32 &&& Int32.toUInt32 31)).toInt32 &&& 1431655765)) &&& 858993459) + ((((a0 - (((a0 : Int32).toUInt32 >>> ((1 : Int32).toUInt32 &&& Int32.toUInt32 31)).toInt32 &&& 1431655765)) : Int32).toUInt32 >>> ((2 : Int32).toUInt32 &&& Int32.toUInt32 31)).toInt32 &&& 858993459)) + (((((a0 - (((a0 : Int32).toUInt32 >>> ((1 : Int32).toUInt32 &&& Int32.toUInt32 31)).toInt32 &&& 1431655765)) &&& 858993459) + ((((a0 - (((a0 : Int32).toUInt32 >>> ((1 : Int32).toUInt32 &&& Int32.toUInt32 31)).toInt32 &&& 1431655765)) : Int32).toUInt32 >>> ((2 : Int32).toUInt32 &&& Int32.toUInt32 31)).toInt32 &&& 858993459)) : Int32).toUInt32 >>> ((4 : Int32).toUInt32 &&& Int32.toUInt32 31)).toInt32) &&& 252645135) : Int32).toUInt32 >>> ((8 : Int32).toUInt32 &&& Int32.toUInt32 31)).toInt32) + ((((((((a0 - (((a0 : Int32).toUInt32 >>> ((1 : Int32).toUInt32 &&& Int32.toUInt32 31)).toInt32 &&& 1431655765)) &&& 858993459) + ((((a0 - (((a0 : Int32).toUInt32 >>> ((1 : Int32).toUInt32 &&& Int32.toUInt32 31)).toInt32 &&& 1431655765)) : Int32).toUInt32 >>> ((2 : Int32).toUInt32 &&& Int32.toUInt32 31)).toInt32 &&& 858993459)) + (((((a0 - (((a0 : Int32).toUInt32 >>> ((1 : Int32).toUInt32 &&& Int32.toUInt32 31)).toInt32 &&& 1431655765)) &&& 858993459) + ((((a0 - (((a0 : Int32).toUInt32 >>> ((1 : Int32).toUInt32 &&& Int32.toUInt32 31)).toInt32 &&& 1431655765)) : Int32).toUInt32 >>> ((2 : Int32).toUInt32 &&& Int32.toUInt32 31)).toInt32 &&& 858993459)) : Int32).toUInt32 >>> ((4 : Int32).toUInt32 &&& Int32.toUInt32 31)).toInt32) &&& 252645135) + (((((((a0 - (((a0 : Int32).toUInt32 >>> ((1 : Int32).toUInt32 &&& Int32.toUInt32 31)).toInt32 &&& 1431655765)) &&& 858993459) + ((((a0 - (((a0 : Int32).toUInt32 >>> ((1 : Int32).toUInt32 &&& Int32.toUInt32 31)).toInt32 &&& 1431655765)) : Int32).toUInt32 >>> ((2 : Int32).toUInt32 &&& Int32.toUInt32 31)).toInt32 &&& 858993459)) + (((((a0 - (((a0 : Int32).toUInt32 >>> ((1 : Int32).toUInt32 &&& Int32.toUInt32 31)).toInt32 &&& 1431655765)) &&& 858993459) + ((((a0 - (((a0 : Int32).toUInt32 >>> ((1 : Int32).toUInt32 &&& Int32.toUInt32 31)).toInt32 &&& 1431655765)) : Int32).toUInt32 >>> ((2 : Int32).toUInt32 &&& Int32.toUInt32 31)).toInt32 &&& 858993459)) : Int32).toUInt32 >>> ((4 : Int32).toUInt32 &&& Int32.toUInt32 31)).toInt32) &&& 252645135) : Int32).toUInt32 >>> ((8 : Int32).toUInt32 &&& Int32.toUInt32 31)).toInt32) : Int32).toUInt32 >>> ((16 : Int32).toUInt32 &&& Int32.toUInt32 31)).toInt32))]) hx hb dJ6_bitCount_0f7a4_47 rfl hl (by decide) rfl (fun ls hl => ?_)
  refine lv_iload_n hx hb dJ6_bitCount_0f7a4_48 rfl (lv_at hl 0 rfl) ?_
  refine lv_bipush (v := 63) hx hb dJ6_bitCount_0f7a4_49 (by decide) ?_
  refine lv_iand hx hb dJ6_bitCount_0f7a4_51 ?_
  cases hf
  exact kR _ _ _ _ hW dJ6_bitCount_0f7a4_52

abbrev rm_X3_lostOf : Room := { frames := 2, cells := 0, slots := 0, locals := 80 }
set_option maxHeartbeats 4000000 in
set_option maxRecDepth 100000 in
theorem c_X3_lostOf (l : Launch) (E : En) (S : St) (a1 : Int32) (a2 : Int32) (r : Int32) (hf : X3_lostOf S a1 a2 = some r) : Mi l E yX3_lostOf cX3_lostOf 9 (some .int) rm_X3_lostOf [.ref (E.ad 8), .int a1, .int a2] S r S := by
  refine g_startI (cc := cX3_lostOf) (n := 9) (by decide) (Nat.le_of_ble_eq_true rfl) ?_
  intro p e s m args below meth c Q H locs C kR hW ls hl
  obtain ⟨⟨hx, hb, hml, hown, hts⟩, hK, hT⟩ := id C
  have hl : lv_has ls 9 [(0, .ref (E.ad 8)), (1, .int a1), (2, .int a2)] := hl
  have X3_lostOf_L5_c : ∀ (S : St) (v1 : Int32) (v2 : Int32) (res : Int32) (n : Nat) (v3 : Int32) (v4 : Int32) (H : Heap) (locs : List Loc) (ls : Array Slot), Ww E S s H locs → lv_has ls 9 [(0, .ref (E.ad 8)), (1, .int v1), (2, .int v2), (3, .int v3), (4, .int v4)] → X3_lostOf_L5 S v1 v2 n v3 v4 = some res → (∀ (w3 : Int32) (H : Heap) (locs : List Loc) (ls : Array Slot), some w3 = some res → Ww E S s H locs → lv_has ls 9 [(3, .int w3)] → W p l e rm_X3_lostOf s m args below meth c H locs 0 0 Q (F0 m 110 ls [])) → W p l e rm_X3_lostOf s m args below meth c H locs 0 0 Q (F0 m 5 ls []) := by
    intro S v1 v2 res n
    induction n with
    | zero =>
      intro v3 v4 H locs ls hW hl hf
      cases hf
    | succ n ih =>
      intro v3 v4 H locs ls hW hl hf kE
      unfold X3_lostOf_L5 at hf
      refine lv_iload hx hb dX3_lostOf_5 (lv_at hl 4 rfl) ?_
      refine lv_bipush (v := 24) hx hb dX3_lostOf_7 (by decide) ?_
      refine lv_icmp_ge (tgt := 110) hx hb dX3_lostOf_9 (by decide) (fun c1 => ?_) (fun c1 => ?_)
      · replace hf := ift_ hf c1
        exact kE _ _ _ _ hf hW (lv_sub hl [3] rfl)
      · replace hf := iff_ hf c1
        refine lv_iload hx hb dX3_lostOf_12 (lv_at hl 4 rfl) ?_
        refine lv_iload_n hx hb dX3_lostOf_14 rfl (lv_at hl 2 rfl) ?_
        refine lv_imul hx hb dX3_lostOf_15 ?_
        refine lv_bipush (v := 24) hx hb dX3_lostOf_16 (by decide) ?_
        refine lv_icmp_ge (tgt := 110) hx hb dX3_lostOf_18 (by decide) (fun c2 => ?_) (fun c2 => ?_)
        · replace hf := ift_ hf c2
          exact kE _ _ _ _ hf hW (lv_sub hl [3] rfl)
        · replace hf := iff_ hf c2
          refine lv_bipush (v := 24) hx hb dX3_lostOf_21 (by decide) ?_
          refine lv_iload hx hb dX3_lostOf_23 (lv_at hl 4 rfl) ?_
          refine lv_iload_n hx hb dX3_lostOf_25 rfl (lv_at hl 2 rfl) ?_
          refine lv_imul hx hb dX3_lostOf_26 ?_
          refine lv_iload_n hx hb dX3_lostOf_27 rfl (lv_at hl 2 rfl) ?_
          refine lv_iadd hx hb dX3_lostOf_28 ?_
          refine g_min C g_us hl.1 k_RX3_25 (Nat.le_of_ble_eq_true rfl) (Nat.le_of_ble_eq_true rfl) ⟨Nat.zero_le _, Nat.zero_le _⟩ dX3_lostOf_29 ?_
          refine lv_istore (lv' := [(5, .int (if ((v4 * v2) + v2) < 24 then ((v4 * v2) + v2) else 24)), (0, .ref (E.ad 8)), (1, .int v1), (2, .int v2), (3, .int v3), (4, .int v4)]) hx hb dX3_lostOf_32 hl (by decide) rfl (fun ls hl => ?_)
          refine lv_iconst (v := 1) hx hb dX3_lostOf_34 (by decide) ?_
          refine lv_iload hx hb dX3_lostOf_35 (lv_at hl 0 rfl) ?_
          refine lv_ishl hx hb dX3_lostOf_37 ?_
          refine lv_iconst (v := 1) hx hb dX3_lostOf_38 (by decide) ?_
          refine lv_iload hx hb dX3_lostOf_39 (lv_at hl 5 rfl) ?_
          refine lv_iload_n hx hb dX3_lostOf_41 rfl (lv_at hl 3 rfl) ?_
          refine lv_imul hx hb dX3_lostOf_42 ?_
          refine lv_ishl hx hb dX3_lostOf_43 ?_
          refine lv_isub hx hb dX3_lostOf_44 ?_
          refine lv_istore (lv' := [(6, .int ((1 <<< ((if ((v4 * v2) + v2) < 24 then ((v4 * v2) + v2) else 24) &&& 31)) - (1 <<< ((v4 * v2) &&& 31)))), (5, .int (if ((v4 * v2) + v2) < 24 then ((v4 * v2) + v2) else 24)), (0, .ref (E.ad 8)), (1, .int v1), (2, .int v2), (3, .int v3), (4, .int v4)]) hx hb dX3_lostOf_45 hl (by decide) rfl (fun ls hl => ?_)
          refine lv_aload_n hx hb dX3_lostOf_47 rfl (lv_at hl 2 rfl) ?_
          refine g_get (ci := 3) (k := 1) (val := .ref (E.ad 9)) C g_us hW rfl rfl rfl (in_sid _ rfl) (by decide) f_RX3_9 rfl dX3_lostOf_48 ?_
          refine lv_iload_n hx hb dX3_lostOf_51 rfl (lv_at hl 3 rfl) ?_
          replace hf := bd_so hf
          obtain ⟨x3, h4, hf⟩ := hf
          refine g_lald C hW h4 dX3_lostOf_52 ?_
          refine lv_l2i (v := (x3 : Int64).toInt32) hx hb dX3_lostOf_53 rfl ?_
          refine lv_iload hx hb dX3_lostOf_54 (lv_at hl 0 rfl) ?_
          refine lv_iand hx hb dX3_lostOf_56 ?_
          refine lv_istore (lv' := [(7, .int ((x3 : Int64).toInt32 &&& ((1 <<< ((if ((v4 * v2) + v2) < 24 then ((v4 * v2) + v2) else 24) &&& 31)) - (1 <<< ((v4 * v2) &&& 31))))), (6, .int ((1 <<< ((if ((v4 * v2) + v2) < 24 then ((v4 * v2) + v2) else 24) &&& 31)) - (1 <<< ((v4 * v2) &&& 31)))), (5, .int (if ((v4 * v2) + v2) < 24 then ((v4 * v2) + v2) else 24)), (0, .ref (E.ad 8)), (1, .int v1), (2, .int v2), (3, .int v3), (4, .int v4)]) hx hb dX3_lostOf_57 hl (by decide) rfl (fun ls hl => ?_)
          refine lv_aload_n hx hb dX3_lostOf_59 rfl (lv_at hl 3 rfl) ?_
          refine g_get (ci := 3) (k := 1) (val := .ref (E.ad 9)) C g_us hW rfl rfl rfl (in_sid _ rfl) (by decide) f_RX3_9 rfl dX3_lostOf_60 ?_
          refine lv_iload_n hx hb dX3_lostOf_63 rfl (lv_at hl 4 rfl) ?_
          replace hf := bd_so hf
          obtain ⟨x5, h6, hf⟩ := hf
          refine g_lald C hW h6 dX3_lostOf_64 ?_
          refine lv_bipush (v := 24) hx hb dX3_lostOf_65 (by decide) ?_
          refine lv_iload hx hb dX3_lostOf_67 (lv_at hl 7 rfl) ?_
          refine lv_iadd hx hb dX3_lostOf_69 ?_
          refine lv_lshr (v := (x5 >>> (((24 + v4) : Int32).toInt64 &&& 63))) hx hb dX3_lostOf_70 rfl ?_
          refine lv_lconst (v := 1) hx hb dX3_lostOf_71 (by decide) ?_
          refine lv_land hx hb dX3_lostOf_72 ?_
          refine lv_lconst (v := 0) hx hb dX3_lostOf_73 (by decide) ?_
          refine W.lcmp hx hb dX3_lostOf_74 ?_
          replace hf := bd_so hf
          obtain ⟨x8, h9, hf⟩ := hf
          have J10 : ∀ (H : Heap) (locs : List Loc) (ls : Array Slot), Ww E S s H locs → lv_has ls 9 [(0, .ref (E.ad 8)), (1, .int v1), (2, .int v2), (3, .int v3), (4, .int v4), (7, .int ((x3 : Int64).toInt32 &&& ((1 <<< ((if ((v4 * v2) + v2) < 24 then ((v4 * v2) + v2) else 24) &&& 31)) - (1 <<< ((v4 * v2) &&& 31)))))] → W p l e rm_X3_lostOf s m args below meth c H locs 0 0 Q (F0 m 83 ls [.int x8]) := by
            intro H locs ls hW hl
            refine lv_istore (lv' := [(8, .int x8), (0, .ref (E.ad 8)), (1, .int v1), (2, .int v2), (3, .int v3), (4, .int v4), (7, .int ((x3 : Int64).toInt32 &&& ((1 <<< ((if ((v4 * v2) + v2) < 24 then ((v4 * v2) + v2) else 24) &&& 31)) - (1 <<< ((v4 * v2) &&& 31)))))]) hx hb dX3_lostOf_83 hl (by decide) rfl (fun ls hl => ?_)
            refine lv_iload hx hb dX3_lostOf_85 (lv_at hl 0 rfl) ?_
            replace hf := bd_so hf
            obtain ⟨x12, h13, hf⟩ := hf
            have J14 : ∀ (H : Heap) (locs : List Loc) (ls : Array Slot), Ww E S s H locs → lv_has ls 9 [(0, .ref (E.ad 8)), (1, .int v1), (2, .int v2), (3, .int x12), (4, .int v4)] → W p l e rm_X3_lostOf s m args below meth c H locs 0 0 Q (F0 m 104 ls []) := by
              intro H locs ls hW hl
              refine lv_iinc (v := (v4 + 1)) (lv' := [(4, .int (v4 + 1)), (0, .ref (E.ad 8)), (1, .int v1), (2, .int v2), (3, .int x12)]) hx hb dX3_lostOf_104 hl (k := 4) rfl rfl (by decide) rfl (fun ls hl => ?_)
              refine lv_goto (tgt := 5) hx hb dX3_lostOf_107 (by decide) ?_
              exact ih _ _ _ _ _ hW (lv_sub hl [1, 2, 3, 4, 0] rfl) hf kE
            clear hf
            have hf := h13
            clear h13
            refine lv_if_ne (tgt := 99) hx hb dX3_lostOf_87 (by decide) (fun c11 => ?_) (fun c11 => ?_)
            · replace hf := iff_ hf c11
              refine lv_iload_n hx hb dX3_lostOf_99 rfl (lv_at hl 4 rfl) ?_
              refine lv_iload hx hb dX3_lostOf_100 (lv_at hl 6 rfl) ?_
              refine lv_ior hx hb dX3_lostOf_102 ?_
              refine lv_istore_n (lv' := [(3, .int (v3 ||| ((x3 : Int64).toInt32 &&& ((1 <<< ((if ((v4 * v2) + v2) < 24 then ((v4 * v2) + v2) else 24) &&& 31)) - (1 <<< ((v4 * v2) &&& 31)))))), (8, .int x8), (0, .ref (E.ad 8)), (1, .int v1), (2, .int v2), (4, .int v4), (7, .int ((x3 : Int64).toInt32 &&& ((1 <<< ((if ((v4 * v2) + v2) < 24 then ((v4 * v2) + v2) else 24) &&& 31)) - (1 <<< ((v4 * v2) &&& 31)))))]) hx hb dX3_lostOf_103 rfl hl (by decide) rfl (fun ls hl => ?_)
              cases hf
              exact J14 _ _ _ hW (lv_sub hl [2, 3, 4, 0, 5] rfl)
            · replace hf := ift_ hf c11
              refine lv_iload hx hb dX3_lostOf_90 (lv_at hl 6 rfl) ?_
              replace hf := bd_so hf
              obtain ⟨x16, h15, hf⟩ := hf
              refine g_callSi (As := [.int ((x3 : Int64).toInt32 &&& ((1 <<< ((if ((v4 * v2) + v2) < 24 then ((v4 * v2) + v2) else 24) &&& 31)) - (1 <<< ((v4 * v2) &&& 31))))]) (rest := []) C g_us hW hl.1 (c_J6_bitCount_0f7a4 l E S ((x3 : Int64).toInt32 &&& ((1 <<< ((if ((v4 * v2) + v2) < 24 then ((v4 * v2) + v2) else 24) &&& 31)) - (1 <<< ((v4 * v2) &&& 31)))) _ h15) k_RX3_31 rfl ⟨rfl, rfl⟩ ⟨Nat.le_of_ble_eq_true rfl, Nat.le_of_ble_eq_true rfl⟩ ⟨Nat.zero_le _, Nat.zero_le _⟩ _ rfl (Nat.le_of_ble_eq_true rfl) dX3_lostOf_92 (fun H locs hW => ?_)
              refine lv_iconst (v := 1) hx hb dX3_lostOf_95 (by decide) ?_
              refine lv_icmp_le (tgt := 104) hx hb dX3_lostOf_96 (by decide) (fun c17 => ?_) (fun c17 => ?_)
              · replace hf := ift_ hf c17
                cases hf
                exact J14 _ _ _ hW (lv_sub hl [1, 2, 3, 4, 5] rfl)
              · replace hf := iff_ hf c17
                refine lv_iload_n hx hb dX3_lostOf_99 rfl (lv_at hl 4 rfl) ?_
                refine lv_iload hx hb dX3_lostOf_100 (lv_at hl 6 rfl) ?_
                refine lv_ior hx hb dX3_lostOf_102 ?_
                refine lv_istore_n (lv' := [(3, .int (v3 ||| ((x3 : Int64).toInt32 &&& ((1 <<< ((if ((v4 * v2) + v2) < 24 then ((v4 * v2) + v2) else 24) &&& 31)) - (1 <<< ((v4 * v2) &&& 31)))))), (8, .int x8), (0, .ref (E.ad 8)), (1, .int v1), (2, .int v2), (4, .int v4), (7, .int ((x3 : Int64).toInt32 &&& ((1 <<< ((if ((v4 * v2) + v2) < 24 then ((v4 * v2) + v2) else 24) &&& 31)) - (1 <<< ((v4 * v2) &&& 31)))))]) hx hb dX3_lostOf_103 rfl hl (by decide) rfl (fun ls hl => ?_)
                cases hf
                exact J14 _ _ _ hW (lv_sub hl [2, 3, 4, 0, 5] rfl)
          clear hf
          have hf := h9
          clear h9
          refine lv_if_eq (tgt := 82) hx hb dX3_lostOf_75 (by decide) (fun c7 => ?_) (fun c7 => ?_)
          · replace hf := ift_ hf c7
            refine lv_iconst (v := 0) hx hb dX3_lostOf_82 (by decide) ?_
            cases hf
            exact J10 _ _ _ hW (lv_sub hl [3, 4, 5, 6, 7, 0] rfl)
          · replace hf := iff_ hf c7
            refine lv_iconst (v := 1) hx hb dX3_lostOf_78 (by decide) ?_
            refine lv_goto (tgt := 83) hx hb dX3_lostOf_79 (by decide) ?_
            cases hf
            exact J10 _ _ _ hW (lv_sub hl [3, 4, 5, 6, 7, 0] rfl)
  unfold X3_lostOf at hf
  refine lv_iconst (v := 0) hx hb dX3_lostOf_0 (by decide) ?_
  refine lv_istore_n (lv' := [(3, .int 0), (0, .ref (E.ad 8)), (1, .int a1), (2, .int a2)]) hx hb dX3_lostOf_1 rfl hl (by decide) rfl (fun ls hl => ?_)
  refine lv_iconst (v := 0) hx hb dX3_lostOf_2 (by decide) ?_
  refine lv_istore (lv' := [(4, .int 0), (3, .int 0), (0, .ref (E.ad 8)), (1, .int a1), (2, .int a2)]) hx hb dX3_lostOf_3 hl (by decide) rfl (fun ls hl => ?_)
  replace hf := bd_so hf
  obtain ⟨x18, h19, hf⟩ := hf
  have J20 : ∀ (H : Heap) (locs : List Loc) (ls : Array Slot), Ww E S s H locs → lv_has ls 9 [(3, .int x18)] → W p l e rm_X3_lostOf s m args below meth c H locs 0 0 Q (F0 m 110 ls []) := by
    intro H locs ls hW hl
    refine lv_iload_n hx hb dX3_lostOf_110 rfl (lv_at hl 0 rfl) ?_
    cases hf
    exact kR _ _ _ _ hW dX3_lostOf_111
  exact X3_lostOf_L5_c _ _ _ _ FU _ _ _ _ _ hW (lv_sub hl [2, 3, 4, 1, 0] rfl) h19 (fun _ H locs ls e hW hl => by cases e; exact J20 H locs ls hW hl)

abbrev rm_X3_losesNothing : Room := { frames := 3, cells := 0, slots := 0, locals := 108 }
set_option maxHeartbeats 4000000 in
set_option maxRecDepth 100000 in
theorem c_X3_losesNothing (l : Launch) (E : En) (S : St) (a1 : Int32) (r : Int32) (hf : X3_losesNothing S a1 = some r) : Mi l E yX3_losesNothing cX3_losesNothing 3 (some .boolean) rm_X3_losesNothing [.ref (E.ad 8), .int a1] S r S := by
  refine g_startZ (cc := cX3_losesNothing) (n := 3) (by decide) (Nat.le_of_ble_eq_true rfl) ?_
  intro p e s m args below meth c Q H locs C kR hW ls hl
  obtain ⟨⟨hx, hb, hml, hown, hts⟩, hK, hT⟩ := id C
  have hl : lv_has ls 3 [(0, .ref (E.ad 8)), (1, .int a1)] := hl
  have X3_losesNothing_L2_c : ∀ (S : St) (v1 : Int32) (res : (Unit) ⊕ (Int32)) (n : Nat) (v2 : Int32) (H : Heap) (locs : List Loc) (ls : Array Slot), Ww E S s H locs → lv_has ls 3 [(0, .ref (E.ad 8)), (1, .int v1), (2, .int v2)] → X3_losesNothing_L2 S v1 n v2 = some res → (∀ (H : Heap) (locs : List Loc) (ls : Array Slot), some (.inl ()) = some res → Ww E S s H locs → lv_has ls 3 [] → W p l e rm_X3_losesNothing s m args below meth c H locs 0 0 Q (F0 m 27 ls [])) → (∀ (r0 : Int32) (H : Heap) (locs : List Loc) (pc : Nat) (ls : Array Slot), some (.inr r0) = some res → Ww E S s H locs → (r0 = 0 ∨ r0 = 1) → decode cX3_losesNothing pc = .ok (.ireturn, 1) → W p l e rm_X3_losesNothing s m args below meth c H locs 0 0 Q (F0 m pc ls [.int r0])) → W p l e rm_X3_losesNothing s m args below meth c H locs 0 0 Q (F0 m 2 ls []) := by
    intro S v1 res n
    induction n with
    | zero =>
      intro v2 H locs ls hW hl hf
      cases hf
    | succ n ih =>
      intro v2 H locs ls hW hl hf kE kR
      unfold X3_losesNothing_L2 at hf
      refine lv_iload_n hx hb dX3_losesNothing_2 rfl (lv_at hl 2 rfl) ?_
      refine lv_aload_n hx hb dX3_losesNothing_3 rfl (lv_at hl 0 rfl) ?_
      refine g_get (ci := 3) (k := 0) (val := .int (rI S 8 0)) C g_us hW rfl rfl rfl (in_sid _ rfl) (by decide) f_RX3_15 rfl dX3_losesNothing_4 ?_
      refine lv_icmp_ge (tgt := 27) hx hb dX3_losesNothing_7 (by decide) (fun c1 => ?_) (fun c1 => ?_)
      · replace hf := ift_ hf c1
        exact kE  _ _ _ hf hW (lv_sub hl [] rfl)
      · replace hf := iff_ hf c1
        refine lv_aload_n hx hb dX3_losesNothing_10 rfl (lv_at hl 0 rfl) ?_
        refine lv_iload_n hx hb dX3_losesNothing_11 rfl (lv_at hl 2 rfl) ?_
        refine lv_iload_n hx hb dX3_losesNothing_12 rfl (lv_at hl 1 rfl) ?_
        replace hf := bd_so hf
        obtain ⟨x3, h2, hf⟩ := hf
        refine g_callVi (ci := 3) (As := [.int v2, .int v1]) (rest := []) C g_us hW hl.1 (c_X3_lostOf l E S v2 v1 _ h2) rfl rfl rfl (in_sid _ rfl) k_RX3_37 rfl ⟨rfl, rfl⟩ ⟨Nat.le_of_ble_eq_true rfl, Nat.le_of_ble_eq_true rfl⟩ ⟨Nat.zero_le _, Nat.zero_le _⟩ _ rfl (Nat.le_of_ble_eq_true rfl) dX3_losesNothing_13 (fun H locs hW => ?_)
        refine lv_if_eq (tgt := 21) hx hb dX3_losesNothing_16 (by decide) (fun c4 => ?_) (fun c4 => ?_)
        · replace hf := ift_ hf c4
          refine lv_iinc (v := (v2 + 1)) (lv' := [(2, .int (v2 + 1)), (0, .ref (E.ad 8)), (1, .int v1)]) hx hb dX3_losesNothing_21 hl (k := 2) rfl rfl (by decide) rfl (fun ls hl => ?_)
          refine lv_goto (tgt := 2) hx hb dX3_losesNothing_24 (by decide) ?_
          exact ih _ _ _ _ hW (lv_sub hl [1, 2, 0] rfl) hf kE kR
        · replace hf := iff_ hf c4
          refine lv_iconst (v := 0) hx hb dX3_losesNothing_19 (by decide) ?_
          exact kR _ _ _ _ _ hf hW (Or.inl rfl) dX3_losesNothing_20
  unfold X3_losesNothing at hf
  refine lv_iconst (v := 0) hx hb dX3_losesNothing_0 (by decide) ?_
  refine lv_istore_n (lv' := [(2, .int 0), (0, .ref (E.ad 8)), (1, .int a1)]) hx hb dX3_losesNothing_1 rfl hl (by decide) rfl (fun ls hl => ?_)
  replace hf := bd_so hf
  obtain ⟨t, h5, hf⟩ := hf
  rcases t with u | x7
  · dsimp only at hf
    have J6 : ∀ (H : Heap) (locs : List Loc) (ls : Array Slot), Ww E S s H locs → lv_has ls 3 [] → W p l e rm_X3_losesNothing s m args below meth c H locs 0 0 Q (F0 m 27 ls []) := by
      intro H locs ls hW hl
      refine lv_iconst (v := 1) hx hb dX3_losesNothing_27 (by decide) ?_
      cases hf
      exact kR _ _ _ _ hW (Or.inr rfl) dX3_losesNothing_28
    exact X3_losesNothing_L2_c _ _ _ FU _ _ _ _ hW (lv_sub hl [1, 2, 0] rfl) h5 (fun H locs ls e hW hl => by cases e; exact J6 H locs ls hW hl) (fun _ H locs pc ls e hW hz dd => by cases e)
  · dsimp only at hf
    refine X3_losesNothing_L2_c _ _ _ FU _ _ _ _ hW (lv_sub hl [1, 2, 0] rfl) h5 (fun H locs ls e hW hl => by cases e) (fun _ H locs pc ls e hW hz dd => ?_)
    cases e
    cases hf
    exact kR _ _ _ _ hW hz dd

abbrev rm_J7_fill_53178 : Room := { frames := 1, cells := 0, slots := 0, locals := 60 }
set_option maxHeartbeats 4000000 in
set_option maxRecDepth 100000 in
theorem c_J7_fill_53178 (l : Launch) (E : En) (S : St) (a0 : Nat) (a1 : Int32) (S1 : St) (hf : J7_fill_53178 S a0 a1 = some S1) : Mv l E yJ7_fill_53178 cJ7_fill_53178 4 none rm_J7_fill_53178 [.ref (E.ad a0), .int a1] S S1 := by
  refine g_startV (cc := cJ7_fill_53178) (n := 4) (by decide) (Nat.le_of_ble_eq_true rfl) ?_
  intro p e s m args below meth c Q H locs C kR hW ls hl
  obtain ⟨⟨hx, hb, hml, hown, hts⟩, hK, hT⟩ := id C
  have hl : lv_has ls 4 [(0, .ref (E.ad a0)), (1, .int a1)] := hl
  have J7_fill_53178_L5_c : ∀ (v0 : Nat) (v1 : Int32) (v3 : Int32) (res : St) (n : Nat) (v2 : Int32) (S : St) (H : Heap) (locs : List Loc) (ls : Array Slot), Ww E S s H locs → lv_has ls 4 [(0, .ref (E.ad v0)), (1, .int v1), (2, .int v2), (3, .int v3)] → J7_fill_53178_L5 v0 v1 v3 n v2 S = some res → (∀ (T : St) (H : Heap) (locs : List Loc) (ls : Array Slot), some T = some res → Ww E T s H locs → lv_has ls 4 [] → W p l e rm_J7_fill_53178 s m args below meth c H locs 0 0 Q (F0 m 20 ls [])) → W p l e rm_J7_fill_53178 s m args below meth c H locs 0 0 Q (F0 m 5 ls []) := by
    intro v0 v1 v3 res n
    induction n with
    | zero =>
      intro v2 S H locs ls hW hl hf
      cases hf
    | succ n ih =>
      intro v2 S H locs ls hW hl hf kE
      unfold J7_fill_53178_L5 at hf
      refine lv_iload_n hx hb dJ7_fill_53178_5 rfl (lv_at hl 2 rfl) ?_
      refine lv_iload_n hx hb dJ7_fill_53178_6 rfl (lv_at hl 3 rfl) ?_
      refine lv_icmp_ge (tgt := 20) hx hb dJ7_fill_53178_7 (by decide) (fun c3 => ?_) (fun c3 => ?_)
      · replace hf := ift_ hf c3
        exact kE _ _ _ _ hf hW (lv_sub hl [] rfl)
      · replace hf := iff_ hf c3
        refine lv_aload_n hx hb dJ7_fill_53178_10 rfl (lv_at hl 0 rfl) ?_
        refine lv_iload_n hx hb dJ7_fill_53178_11 rfl (lv_at hl 2 rfl) ?_
        refine lv_iload_n hx hb dJ7_fill_53178_12 rfl (lv_at hl 1 rfl) ?_
        replace hf := bd_so hf
        obtain ⟨S4, h5, hf⟩ := hf
        refine g_iast C hW h5 dJ7_fill_53178_13 (fun H locs hW => ?_)
        refine lv_iinc (v := (v2 + 1)) (lv' := [(2, .int (v2 + 1)), (0, .ref (E.ad v0)), (1, .int v1), (3, .int v3)]) hx hb dJ7_fill_53178_14 hl (k := 2) rfl rfl (by decide) rfl (fun ls hl => ?_)
        refine lv_goto (tgt := 5) hx hb dJ7_fill_53178_17 (by decide) ?_
        exact ih _ _ _ _ _ hW (lv_sub hl [1, 2, 0, 3] rfl) hf kE
  unfold J7_fill_53178 at hf
  refine lv_iconst (v := 0) hx hb dJ7_fill_53178_0 (by decide) ?_
  refine lv_istore_n (lv' := [(2, .int 0), (0, .ref (E.ad a0)), (1, .int a1)]) hx hb dJ7_fill_53178_1 rfl hl (by decide) rfl (fun ls hl => ?_)
  refine lv_aload_n hx hb dJ7_fill_53178_2 rfl (lv_at hl 1 rfl) ?_
  replace hf := bd_so hf
  obtain ⟨x1, h2, hf⟩ := hf
  refine g_alen C hW h2 dJ7_fill_53178_3 ?_
  refine lv_istore_n (lv' := [(3, .int x1), (2, .int 0), (0, .ref (E.ad a0)), (1, .int a1)]) hx hb dJ7_fill_53178_4 rfl hl (by decide) rfl (fun ls hl => ?_)
  replace hf := bd_so hf
  obtain ⟨S6, h7, hf⟩ := hf
  have J8 : ∀ (H : Heap) (locs : List Loc) (ls : Array Slot), Ww E S6 s H locs → lv_has ls 4 [] → W p l e rm_J7_fill_53178 s m args below meth c H locs 0 0 Q (F0 m 20 ls []) := by
    intro H locs ls hW hl
    cases hf
    exact kR _ _ _ _ hW dJ7_fill_53178_20
  exact J7_fill_53178_L5_c _ _ _ _ FU _ _ _ _ _ hW (lv_sub hl [2, 3, 1, 0] rfl) h7 (fun _ H locs ls e hW hl => by cases e; exact J8 H locs ls hW hl)

abbrev rm_X5_append : Room := { frames := 1, cells := 0, slots := 0, locals := 60 }
set_option maxHeartbeats 4000000 in
set_option maxRecDepth 100000 in
theorem c_X5_append (l : Launch) (E : En) (S : St) (a1 : Int32) (a2 : Int32) (a3 : Int32) (S1 : St) (hf : X5_append S a1 a2 a3 = some S1) : Mv l E yX5_append cX5_append 5 none rm_X5_append [.ref (E.ad 12), .int a1, .int a2, .int a3] S S1 := by
  refine g_startV (cc := cX5_append) (n := 5) (by decide) (Nat.le_of_ble_eq_true rfl) ?_
  intro p e s m args below meth c Q H locs C kR hW ls hl
  obtain ⟨⟨hx, hb, hml, hown, hts⟩, hK, hT⟩ := id C
  have hl : lv_has ls 5 [(0, .ref (E.ad 12)), (1, .int a1), (2, .int a2), (3, .int a3)] := hl
  have X5_append_L3_c : ∀ (v1 : Int32) (v2 : Int32) (v3 : Int32) (res : St) (n : Nat) (v4 : Int32) (S : St) (H : Heap) (locs : List Loc) (ls : Array Slot), Ww E S s H locs → lv_has ls 5 [(0, .ref (E.ad 12)), (1, .int v1), (2, .int v2), (3, .int v3), (4, .int v4)] → X5_append_L3 v1 v2 v3 n v4 S = some res → (∀ (T : St) (H : Heap) (locs : List Loc) (ls : Array Slot), some T = some res → Ww E T s H locs → lv_has ls 5 [] → W p l e rm_X5_append s m args below meth c H locs 0 0 Q (F0 m 54 ls [])) → W p l e rm_X5_append s m args below meth c H locs 0 0 Q (F0 m 3 ls []) := by
    intro v1 v2 v3 res n
    induction n with
    | zero =>
      intro v4 S H locs ls hW hl hf
      cases hf
    | succ n ih =>
      intro v4 S H locs ls hW hl hf kE
      unfold X5_append_L3 at hf
      refine lv_iload hx hb dX5_append_3 (lv_at hl 4 rfl) ?_
      refine lv_iload_n hx hb dX5_append_5 rfl (lv_at hl 2 rfl) ?_
      refine lv_icmp_ge (tgt := 54) hx hb dX5_append_6 (by decide) (fun c1 => ?_) (fun c1 => ?_)
      · replace hf := ift_ hf c1
        exact kE _ _ _ _ hf hW (lv_sub hl [] rfl)
      · replace hf := iff_ hf c1
        refine lv_aload_n hx hb dX5_append_9 rfl (lv_at hl 0 rfl) ?_
        refine g_get (ci := 5) (k := 1) (val := .ref (E.ad 13)) C g_us hW rfl rfl rfl (in_sid _ rfl) (by decide) f_RX5_9 rfl dX5_append_10 ?_
        refine lv_aload_n hx hb dX5_append_13 rfl (lv_at hl 0 rfl) ?_
        refine g_get (ci := 5) (k := 0) (val := .int (rI S 12 0)) C g_us hW rfl rfl rfl (in_sid _ rfl) (by decide) f_RX5_15 rfl dX5_append_14 ?_
        refine lv_iload_n hx hb dX5_append_17 rfl (lv_at hl 1 rfl) ?_
        refine lv_iload_n hx hb dX5_append_18 rfl (lv_at hl 3 rfl) ?_
        replace hf := bd_so hf
        obtain ⟨x3, h4, hf⟩ := hf
        have J5 : ∀ (H : Heap) (locs : List Loc) (ls : Array Slot), Ww E S s H locs → lv_has ls 5 [(0, .ref (E.ad 12)), (1, .int v1), (2, .int v2), (3, .int v3), (4, .int v4)] → W p l e rm_X5_append s m args below meth c H locs 0 0 Q (F0 m 36 ls [.int x3, .int v1, .int (rI S 12 0), .ref (E.ad 13)]) := by
          intro H locs ls hW hl
          refine lv_iadd hx hb dX5_append_36 ?_
          replace hf := bd_so hf
          obtain ⟨S6, h7, hf⟩ := hf
          refine g_iast C hW h7 dX5_append_37 (fun H locs hW => ?_)
          refine lv_aload_n hx hb dX5_append_38 rfl (lv_at hl 0 rfl) ?_
          refine lv_dup hx hb dX5_append_39 rfl ?_
          refine g_get (ci := 5) (k := 0) (val := .int (rI S6 12 0)) C g_us hW rfl rfl rfl (in_sid _ rfl) (by decide) f_RX5_15 rfl dX5_append_40 ?_
          refine lv_iconst (v := 1) hx hb dX5_append_43 (by decide) ?_
          refine lv_iadd hx hb dX5_append_44 ?_
          replace hf := bd_so hf
          obtain ⟨S8, h9, hf⟩ := hf
          refine g_putI (ci := 5) (k := 0) C g_us hW rfl rfl rfl (in_sid _ rfl) (by decide) f_RX5_15 rfl rfl rfl h9 dX5_append_45 (fun H locs hW => ?_)
          refine lv_iinc (v := (v4 + 1)) (lv' := [(4, .int (v4 + 1)), (0, .ref (E.ad 12)), (1, .int v1), (2, .int v2), (3, .int v3)]) hx hb dX5_append_48 hl (k := 4) rfl rfl (by decide) rfl (fun ls hl => ?_)
          refine lv_goto (tgt := 3) hx hb dX5_append_51 (by decide) ?_
          exact ih _ _ _ _ _ hW (lv_sub hl [1, 2, 3, 4, 0] rfl) hf kE
        clear hf
        have hf := h4
        clear h4
        refine lv_if_eq (tgt := 35) hx hb dX5_append_19 (by decide) (fun c2 => ?_) (fun c2 => ?_)
        · replace hf := ift_ hf c2
          refine lv_iconst (v := 0) hx hb dX5_append_35 (by decide) ?_
          cases hf
          exact J5 _ _ _ hW (lv_sub hl [0, 1, 2, 3, 4] rfl)
        · replace hf := iff_ hf c2
          refine lv_iload hx hb dX5_append_22 (lv_at hl 4 rfl) ?_
          refine lv_iload_n hx hb dX5_append_24 rfl (lv_at hl 2 rfl) ?_
          refine lv_iconst (v := 1) hx hb dX5_append_25 (by decide) ?_
          refine lv_isub hx hb dX5_append_26 ?_
          refine lv_icmp_ne (tgt := 35) hx hb dX5_append_27 (by decide) (fun c10 => ?_) (fun c10 => ?_)
          · replace hf := iff_ hf c10
            refine lv_iconst (v := 0) hx hb dX5_append_35 (by decide) ?_
            cases hf
            exact J5 _ _ _ hW (lv_sub hl [0, 1, 2, 3, 4] rfl)
          · replace hf := ift_ hf c10
            refine lv_bipush (v := 10) hx hb dX5_append_30 (by decide) ?_
            refine lv_goto (tgt := 36) hx hb dX5_append_32 (by decide) ?_
            cases hf
            exact J5 _ _ _ hW (lv_sub hl [0, 1, 2, 3, 4] rfl)
  unfold X5_append at hf
  refine lv_iconst (v := 0) hx hb dX5_append_0 (by decide) ?_
  refine lv_istore (lv' := [(4, .int 0), (0, .ref (E.ad 12)), (1, .int a1), (2, .int a2), (3, .int a3)]) hx hb dX5_append_1 hl (by decide) rfl (fun ls hl => ?_)
  replace hf := bd_so hf
  obtain ⟨S11, h12, hf⟩ := hf
  have J13 : ∀ (H : Heap) (locs : List Loc) (ls : Array Slot), Ww E S11 s H locs → lv_has ls 5 [] → W p l e rm_X5_append s m args below meth c H locs 0 0 Q (F0 m 54 ls []) := by
    intro H locs ls hW hl
    cases hf
    exact kR _ _ _ _ hW dX5_append_54
  exact X5_append_L3_c _ _ _ _ FU _ _ _ _ _ hW (lv_sub hl [1, 2, 3, 4, 0] rfl) h12 (fun _ H locs ls e hW hl => by cases e; exact J13 H locs ls hW hl)

abbrev rm_X5_breaths : Room := { frames := 1, cells := 0, slots := 0, locals := 60 }
set_option maxHeartbeats 4000000 in
set_option maxRecDepth 100000 in
theorem c_X5_breaths (l : Launch) (E : En) (S : St) (r : Int32) (hf : X5_breaths S  = some r) : Mi l E yX5_breaths cX5_breaths 3 (some .int) rm_X5_breaths [.ref (E.ad 6)] S r S := by
  refine g_startI (cc := cX5_breaths) (n := 3) (by decide) (Nat.le_of_ble_eq_true rfl) ?_
  intro p e s m args below meth c Q H locs C kR hW ls hl
  obtain ⟨⟨hx, hb, hml, hown, hts⟩, hK, hT⟩ := id C
  have hl : lv_has ls 3 [(0, .ref (E.ad 6))] := hl
  have X5_breaths_L4_c : ∀ (S : St) (res : Int32) (n : Nat) (v1 : Int32) (v2 : Int32) (H : Heap) (locs : List Loc) (ls : Array Slot), Ww E S s H locs → lv_has ls 3 [(0, .ref (E.ad 6)), (1, .int v1), (2, .int v2)] → X5_breaths_L4 S  n v1 v2 = some res → (∀ (w1 : Int32) (H : Heap) (locs : List Loc) (ls : Array Slot), some w1 = some res → Ww E S s H locs → lv_has ls 3 [(1, .int w1)] → W p l e rm_X5_breaths s m args below meth c H locs 0 0 Q (F0 m 37 ls [])) → W p l e rm_X5_breaths s m args below meth c H locs 0 0 Q (F0 m 4 ls []) := by
    intro S  res n
    induction n with
    | zero =>
      intro v1 v2 H locs ls hW hl hf
      cases hf
    | succ n ih =>
      intro v1 v2 H locs ls hW hl hf kE
      unfold X5_breaths_L4 at hf
      refine lv_iload_n hx hb dX5_breaths_4 rfl (lv_at hl 2 rfl) ?_
      refine lv_aload_n hx hb dX5_breaths_5 rfl (lv_at hl 0 rfl) ?_
      refine g_get (ci := 5) (k := 0) (val := .int (rI S 6 0)) C g_us hW rfl rfl rfl (in_sid _ rfl) (by decide) f_RX5_15 rfl dX5_breaths_6 ?_
      refine lv_icmp_ge (tgt := 37) hx hb dX5_breaths_9 (by decide) (fun c1 => ?_) (fun c1 => ?_)
      · replace hf := ift_ hf c1
        exact kE _ _ _ _ hf hW (lv_sub hl [1] rfl)
      · replace hf := iff_ hf c1
        refine lv_iload_n hx hb dX5_breaths_12 rfl (lv_at hl 1 rfl) ?_
        refine lv_aload_n hx hb dX5_breaths_13 rfl (lv_at hl 0 rfl) ?_
        refine g_get (ci := 5) (k := 1) (val := .ref (E.ad 7)) C g_us hW rfl rfl rfl (in_sid _ rfl) (by decide) f_RX5_9 rfl dX5_breaths_14 ?_
        refine lv_iload_n hx hb dX5_breaths_17 rfl (lv_at hl 2 rfl) ?_
        replace hf := bd_so hf
        obtain ⟨x2, h3, hf⟩ := hf
        refine g_iald C hW h3 dX5_breaths_18 ?_
        refine lv_bipush (v := 10) hx hb dX5_breaths_19 (by decide) ?_
        replace hf := bd_so hf
        obtain ⟨x5, h6, hf⟩ := hf
        have J7 : ∀ (H : Heap) (locs : List Loc) (ls : Array Slot), Ww E S s H locs → lv_has ls 3 [(0, .ref (E.ad 6)), (2, .int v2)] → W p l e rm_X5_breaths s m args below meth c H locs 0 0 Q (F0 m 29 ls [.int x5, .int v1]) := by
          intro H locs ls hW hl
          refine lv_iadd hx hb dX5_breaths_29 ?_
          refine lv_istore_n (lv' := [(1, .int (v1 + x5)), (0, .ref (E.ad 6)), (2, .int v2)]) hx hb dX5_breaths_30 rfl hl (by decide) rfl (fun ls hl => ?_)
          refine lv_iinc (v := (v2 + 1)) (lv' := [(2, .int (v2 + 1)), (1, .int (v1 + x5)), (0, .ref (E.ad 6))]) hx hb dX5_breaths_31 hl (k := 2) rfl rfl (by decide) rfl (fun ls hl => ?_)
          refine lv_goto (tgt := 4) hx hb dX5_breaths_34 (by decide) ?_
          exact ih _ _ _ _ _ hW (lv_sub hl [2, 1, 0] rfl) hf kE
        clear hf
        have hf := h6
        clear h6
        refine lv_icmp_lt (tgt := 28) hx hb dX5_breaths_21 (by decide) (fun c4 => ?_) (fun c4 => ?_)
        · replace hf := ift_ hf c4
          refine lv_iconst (v := 0) hx hb dX5_breaths_28 (by decide) ?_
          cases hf
          exact J7 _ _ _ hW (lv_sub hl [0, 2] rfl)
        · replace hf := iff_ hf c4
          refine lv_iconst (v := 1) hx hb dX5_breaths_24 (by decide) ?_
          refine lv_goto (tgt := 29) hx hb dX5_breaths_25 (by decide) ?_
          cases hf
          exact J7 _ _ _ hW (lv_sub hl [0, 2] rfl)
  unfold X5_breaths at hf
  refine lv_iconst (v := 0) hx hb dX5_breaths_0 (by decide) ?_
  refine lv_istore_n (lv' := [(1, .int 0), (0, .ref (E.ad 6))]) hx hb dX5_breaths_1 rfl hl (by decide) rfl (fun ls hl => ?_)
  refine lv_iconst (v := 0) hx hb dX5_breaths_2 (by decide) ?_
  refine lv_istore_n (lv' := [(2, .int 0), (1, .int 0), (0, .ref (E.ad 6))]) hx hb dX5_breaths_3 rfl hl (by decide) rfl (fun ls hl => ?_)
  replace hf := bd_so hf
  obtain ⟨x8, h9, hf⟩ := hf
  have J10 : ∀ (H : Heap) (locs : List Loc) (ls : Array Slot), Ww E S s H locs → lv_has ls 3 [(1, .int x8)] → W p l e rm_X5_breaths s m args below meth c H locs 0 0 Q (F0 m 37 ls []) := by
    intro H locs ls hW hl
    refine lv_iload_n hx hb dX5_breaths_37 rfl (lv_at hl 0 rfl) ?_
    cases hf
    exact kR _ _ _ _ hW dX5_breaths_38
  exact X5_breaths_L4_c _ _ FU _ _ _ _ _ hW (lv_sub hl [2, 1, 0] rfl) h9 (fun _ H locs ls e hW hl => by cases e; exact J10 H locs ls hW hl)

abbrev rm_X5_behindLastBreath : Room := { frames := 1, cells := 0, slots := 0, locals := 60 }
set_option maxHeartbeats 4000000 in
set_option maxRecDepth 100000 in
theorem c_X5_behindLastBreath (l : Launch) (E : En) (S : St) (a1 : Int32) (r : Int32) (hf : X5_behindLastBreath S a1 = some r) : Mi l E yX5_behindLastBreath cX5_behindLastBreath 3 (some .int) rm_X5_behindLastBreath [.ref (E.ad 6), .int a1] S r S := by
  refine g_startI (cc := cX5_behindLastBreath) (n := 3) (by decide) (Nat.le_of_ble_eq_true rfl) ?_
  intro p e s m args below meth c Q H locs C kR hW ls hl
  obtain ⟨⟨hx, hb, hml, hown, hts⟩, hK, hT⟩ := id C
  have hl : lv_has ls 3 [(0, .ref (E.ad 6)), (1, .int a1)] := hl
  have X5_behindLastBreath_L9_c : ∀ (S : St) (res : (Unit) ⊕ (Int32)) (n : Nat) (v2 : Int32) (H : Heap) (locs : List Loc) (ls : Array Slot), Ww E S s H locs → lv_has ls 3 [(0, .ref (E.ad 6)), (2, .int v2)] → X5_behindLastBreath_L9 S  n v2 = some res → (∀ (H : Heap) (locs : List Loc) (ls : Array Slot), some (.inl ()) = some res → Ww E S s H locs → lv_has ls 3 [] → W p l e rm_X5_behindLastBreath s m args below meth c H locs 0 0 Q (F0 m 34 ls [])) → (∀ (r0 : Int32) (H : Heap) (locs : List Loc) (pc : Nat) (ls : Array Slot), some (.inr r0) = some res → Ww E S s H locs → decode cX5_behindLastBreath pc = .ok (.ireturn, 1) → W p l e rm_X5_behindLastBreath s m args below meth c H locs 0 0 Q (F0 m pc ls [.int r0])) → W p l e rm_X5_behindLastBreath s m args below meth c H locs 0 0 Q (F0 m 9 ls []) := by
    intro S  res n
    induction n with
    | zero =>
      intro v2 H locs ls hW hl hf
      cases hf
    | succ n ih =>
      intro v2 H locs ls hW hl hf kE kR
      unfold X5_behindLastBreath_L9 at hf
      refine lv_iload_n hx hb dX5_behindLastBreath_9 rfl (lv_at hl 1 rfl) ?_
      refine lv_if_le (tgt := 34) hx hb dX5_behindLastBreath_10 (by decide) (fun c1 => ?_) (fun c1 => ?_)
      · replace hf := ift_ hf c1
        exact kE  _ _ _ hf hW (lv_sub hl [] rfl)
      · replace hf := iff_ hf c1
        refine lv_aload_n hx hb dX5_behindLastBreath_13 rfl (lv_at hl 0 rfl) ?_
        refine g_get (ci := 5) (k := 1) (val := .ref (E.ad 7)) C g_us hW rfl rfl rfl (in_sid _ rfl) (by decide) f_RX5_9 rfl dX5_behindLastBreath_14 ?_
        refine lv_iload_n hx hb dX5_behindLastBreath_17 rfl (lv_at hl 1 rfl) ?_
        refine lv_iconst (v := 1) hx hb dX5_behindLastBreath_18 (by decide) ?_
        refine lv_isub hx hb dX5_behindLastBreath_19 ?_
        replace hf := bd_so hf
        obtain ⟨x2, h3, hf⟩ := hf
        refine g_iald C hW h3 dX5_behindLastBreath_20 ?_
        refine lv_bipush (v := 10) hx hb dX5_behindLastBreath_21 (by decide) ?_
        refine lv_icmp_lt (tgt := 28) hx hb dX5_behindLastBreath_23 (by decide) (fun c4 => ?_) (fun c4 => ?_)
        · replace hf := ift_ hf c4
          refine lv_iinc (v := (v2 + (-1))) (lv' := [(2, .int (v2 + (-1))), (0, .ref (E.ad 6))]) hx hb dX5_behindLastBreath_28 hl (k := 1) rfl rfl (by decide) rfl (fun ls hl => ?_)
          refine lv_goto (tgt := 9) hx hb dX5_behindLastBreath_31 (by decide) ?_
          exact ih _ _ _ _ hW (lv_sub hl [1, 0] rfl) hf kE kR
        · replace hf := iff_ hf c4
          refine lv_iload_n hx hb dX5_behindLastBreath_26 rfl (lv_at hl 1 rfl) ?_
          exact kR _ _ _ _ _ hf hW dX5_behindLastBreath_27
  unfold X5_behindLastBreath at hf
  refine lv_iload_n hx hb dX5_behindLastBreath_0 rfl (lv_at hl 1 rfl) ?_
  refine lv_aload_n hx hb dX5_behindLastBreath_1 rfl (lv_at hl 0 rfl) ?_
  refine g_get (ci := 5) (k := 0) (val := .int (rI S 6 0)) C g_us hW rfl rfl rfl (in_sid _ rfl) (by decide) f_RX5_15 rfl dX5_behindLastBreath_2 ?_
  refine g_min C g_us hl.1 k_RX5_25 (Nat.le_of_ble_eq_true rfl) (Nat.le_of_ble_eq_true rfl) ⟨Nat.zero_le _, Nat.zero_le _⟩ dX5_behindLastBreath_5 ?_
  refine lv_istore_n (lv' := [(2, .int (if (rI S 6 0) < a1 then (rI S 6 0) else a1)), (0, .ref (E.ad 6)), (1, .int a1)]) hx hb dX5_behindLastBreath_8 rfl hl (by decide) rfl (fun ls hl => ?_)
  replace hf := bd_so hf
  obtain ⟨t, h5, hf⟩ := hf
  rcases t with u | x7
  · dsimp only at hf
    have J6 : ∀ (H : Heap) (locs : List Loc) (ls : Array Slot), Ww E S s H locs → lv_has ls 3 [] → W p l e rm_X5_behindLastBreath s m args below meth c H locs 0 0 Q (F0 m 34 ls []) := by
      intro H locs ls hW hl
      refine lv_iconst (v := 0) hx hb dX5_behindLastBreath_34 (by decide) ?_
      cases hf
      exact kR _ _ _ _ hW dX5_behindLastBreath_35
    exact X5_behindLastBreath_L9_c _ _ FU _ _ _ _ hW (lv_sub hl [1, 0] rfl) h5 (fun H locs ls e hW hl => by cases e; exact J6 H locs ls hW hl) (fun _ H locs pc ls e hW dd => by cases e)
  · dsimp only at hf
    refine X5_behindLastBreath_L9_c _ _ FU _ _ _ _ hW (lv_sub hl [1, 0] rfl) h5 (fun H locs ls e hW hl => by cases e) (fun _ H locs pc ls e hW dd => ?_)
    cases e
    cases hf
    exact kR _ _ _ _ hW dd

abbrev rm_X5_clashesAt : Room := { frames := 1, cells := 0, slots := 0, locals := 60 }
set_option maxHeartbeats 4000000 in
set_option maxRecDepth 100000 in
theorem c_X5_clashesAt (l : Launch) (E : En) (S : St) (a1 : Int32) (a2 : Int32) (r : Int32) (hf : X5_clashesAt S a1 a2 = some r) : Mi l E yX5_clashesAt cX5_clashesAt 7 (some .int) rm_X5_clashesAt [.ref (E.ad 6), .int a1, .int a2] S r S := by
  refine g_startI (cc := cX5_clashesAt) (n := 7) (by decide) (Nat.le_of_ble_eq_true rfl) ?_
  intro p e s m args below meth c Q H locs C kR hW ls hl
  obtain ⟨⟨hx, hb, hml, hown, hts⟩, hK, hT⟩ := id C
  have hl : lv_has ls 7 [(0, .ref (E.ad 6)), (1, .int a1), (2, .int a2)] := hl
  have X5_clashesAt_L5_c : ∀ (S : St) (v1 : Int32) (v2 : Int32) (res : Int32) (n : Nat) (v3 : Int32) (v4 : Int32) (H : Heap) (locs : List Loc) (ls : Array Slot), Ww E S s H locs → lv_has ls 7 [(0, .ref (E.ad 6)), (1, .int v1), (2, .int v2), (3, .int v3), (4, .int v4)] → X5_clashesAt_L5 S v1 v2 n v3 v4 = some res → (∀ (w3 : Int32) (H : Heap) (locs : List Loc) (ls : Array Slot), some w3 = some res → Ww E S s H locs → lv_has ls 7 [(3, .int w3)] → W p l e rm_X5_clashesAt s m args below meth c H locs 0 0 Q (F0 m 74 ls [])) → W p l e rm_X5_clashesAt s m args below meth c H locs 0 0 Q (F0 m 5 ls []) := by
    intro S v1 v2 res n
    induction n with
    | zero =>
      intro v3 v4 H locs ls hW hl hf
      cases hf
    | succ n ih =>
      intro v3 v4 H locs ls hW hl hf kE
      unfold X5_clashesAt_L5 at hf
      refine lv_iload hx hb dX5_clashesAt_5 (lv_at hl 4 rfl) ?_
      refine lv_aload_n hx hb dX5_clashesAt_7 rfl (lv_at hl 0 rfl) ?_
      refine g_get (ci := 5) (k := 0) (val := .int (rI S 6 0)) C g_us hW rfl rfl rfl (in_sid _ rfl) (by decide) f_RX5_15 rfl dX5_clashesAt_8 ?_
      refine lv_icmp_ge (tgt := 74) hx hb dX5_clashesAt_11 (by decide) (fun c1 => ?_) (fun c1 => ?_)
      · replace hf := ift_ hf c1
        exact kE _ _ _ _ hf hW (lv_sub hl [3] rfl)
      · replace hf := iff_ hf c1
        refine lv_aload_n hx hb dX5_clashesAt_14 rfl (lv_at hl 0 rfl) ?_
        refine g_get (ci := 5) (k := 1) (val := .ref (E.ad 7)) C g_us hW rfl rfl rfl (in_sid _ rfl) (by decide) f_RX5_9 rfl dX5_clashesAt_15 ?_
        refine lv_iload hx hb dX5_clashesAt_18 (lv_at hl 4 rfl) ?_
        replace hf := bd_so hf
        obtain ⟨x2, h3, hf⟩ := hf
        refine g_iald C hW h3 dX5_clashesAt_20 ?_
        refine lv_bipush (v := 10) hx hb dX5_clashesAt_21 (by decide) ?_
        replace hf := bd_so hf
        obtain ⟨x4, h5, hf⟩ := hf
        refine g_irem C h5 dX5_clashesAt_23 ?_
        refine lv_istore (lv' := [(5, .int x4), (0, .ref (E.ad 6)), (1, .int v1), (2, .int v2), (3, .int v3), (4, .int v4)]) hx hb dX5_clashesAt_24 hl (by decide) rfl (fun ls hl => ?_)
        refine lv_aload_n hx hb dX5_clashesAt_26 rfl (lv_at hl 1 rfl) ?_
        refine g_get (ci := 5) (k := 1) (val := .ref (E.ad 7)) C g_us hW rfl rfl rfl (in_sid _ rfl) (by decide) f_RX5_9 rfl dX5_clashesAt_27 ?_
        refine lv_iload hx hb dX5_clashesAt_30 (lv_at hl 5 rfl) ?_
        refine lv_iload_n hx hb dX5_clashesAt_32 rfl (lv_at hl 2 rfl) ?_
        refine lv_isub hx hb dX5_clashesAt_33 ?_
        replace hf := bd_so hf
        obtain ⟨x6, h7, hf⟩ := hf
        refine g_iald C hW h7 dX5_clashesAt_34 ?_
        refine lv_bipush (v := 10) hx hb dX5_clashesAt_35 (by decide) ?_
        replace hf := bd_so hf
        obtain ⟨x8, h9, hf⟩ := hf
        refine g_irem C h9 dX5_clashesAt_37 ?_
        refine lv_istore (lv' := [(6, .int x8), (5, .int x4), (0, .ref (E.ad 6)), (1, .int v1), (2, .int v2), (3, .int v3), (4, .int v4)]) hx hb dX5_clashesAt_38 hl (by decide) rfl (fun ls hl => ?_)
        refine lv_iload hx hb dX5_clashesAt_40 (lv_at hl 1 rfl) ?_
        replace hf := bd_so hf
        obtain ⟨x11, h12, hf⟩ := hf
        have J13 : ∀ (H : Heap) (locs : List Loc) (ls : Array Slot), Ww E S s H locs → lv_has ls 7 [(0, .ref (E.ad 6)), (1, .int v1), (2, .int v2), (3, .int x11), (4, .int v4)] → W p l e rm_X5_clashesAt s m args below meth c H locs 0 0 Q (F0 m 68 ls []) := by
          intro H locs ls hW hl
          refine lv_iinc (v := (v4 + 1)) (lv' := [(4, .int (v4 + 1)), (0, .ref (E.ad 6)), (1, .int v1), (2, .int v2), (3, .int x11)]) hx hb dX5_clashesAt_68 hl (k := 4) rfl rfl (by decide) rfl (fun ls hl => ?_)
          refine lv_goto (tgt := 5) hx hb dX5_clashesAt_71 (by decide) ?_
          exact ih _ _ _ _ _ hW (lv_sub hl [1, 2, 3, 4, 0] rfl) hf kE
        clear hf
        have hf := h12
        clear h12
        refine lv_if_eq (tgt := 68) hx hb dX5_clashesAt_42 (by decide) (fun c10 => ?_) (fun c10 => ?_)
        · replace hf := ift_ hf c10
          cases hf
          exact J13 _ _ _ hW (lv_sub hl [2, 3, 4, 5, 6] rfl)
        · replace hf := iff_ hf c10
          refine lv_iload hx hb dX5_clashesAt_45 (lv_at hl 0 rfl) ?_
          refine lv_if_eq (tgt := 68) hx hb dX5_clashesAt_47 (by decide) (fun c14 => ?_) (fun c14 => ?_)
          · replace hf := ift_ hf c14
            cases hf
            exact J13 _ _ _ hW (lv_sub hl [2, 3, 4, 5, 6] rfl)
          · replace hf := iff_ hf c14
            refine lv_iload_n hx hb dX5_clashesAt_50 rfl (lv_at hl 4 rfl) ?_
            refine lv_iload hx hb dX5_clashesAt_51 (lv_at hl 1 rfl) ?_
            refine lv_iload hx hb dX5_clashesAt_53 (lv_at hl 0 rfl) ?_
            refine lv_isub hx hb dX5_clashesAt_55 ?_
            refine g_abs C g_us hl.1 k_RX5_31 (Nat.le_of_ble_eq_true rfl) (Nat.le_of_ble_eq_true rfl) ⟨Nat.zero_le _, Nat.zero_le _⟩ dX5_clashesAt_56 ?_
            refine lv_ishr hx hb dX5_clashesAt_59 ?_
            refine lv_iconst (v := 1) hx hb dX5_clashesAt_60 (by decide) ?_
            refine lv_iand hx hb dX5_clashesAt_61 ?_
            refine lv_if_ne (tgt := 68) hx hb dX5_clashesAt_62 (by decide) (fun c15 => ?_) (fun c15 => ?_)
            · replace hf := iff_ hf c15
              cases hf
              exact J13 _ _ _ hW (lv_sub hl [2, 3, 4, 5, 6] rfl)
            · replace hf := ift_ hf c15
              refine lv_iinc (v := (v3 + 1)) (lv' := [(3, .int (v3 + 1)), (6, .int x8), (5, .int x4), (0, .ref (E.ad 6)), (1, .int v1), (2, .int v2), (4, .int v4)]) hx hb dX5_clashesAt_65 hl (k := 5) rfl rfl (by decide) rfl (fun ls hl => ?_)
              cases hf
              exact J13 _ _ _ hW (lv_sub hl [3, 4, 5, 0, 6] rfl)
  unfold X5_clashesAt at hf
  refine lv_iconst (v := 0) hx hb dX5_clashesAt_0 (by decide) ?_
  refine lv_istore_n (lv' := [(3, .int 0), (0, .ref (E.ad 6)), (1, .int a1), (2, .int a2)]) hx hb dX5_clashesAt_1 rfl hl (by decide) rfl (fun ls hl => ?_)
  refine lv_iload_n hx hb dX5_clashesAt_2 rfl (lv_at hl 2 rfl) ?_
  refine lv_istore (lv' := [(4, .int a1), (3, .int 0), (0, .ref (E.ad 6)), (1, .int a1), (2, .int a2)]) hx hb dX5_clashesAt_3 hl (by decide) rfl (fun ls hl => ?_)
  replace hf := bd_so hf
  obtain ⟨x16, h17, hf⟩ := hf
  have J18 : ∀ (H : Heap) (locs : List Loc) (ls : Array Slot), Ww E S s H locs → lv_has ls 7 [(3, .int x16)] → W p l e rm_X5_clashesAt s m args below meth c H locs 0 0 Q (F0 m 74 ls []) := by
    intro H locs ls hW hl
    refine lv_iload_n hx hb dX5_clashesAt_74 rfl (lv_at hl 0 rfl) ?_
    cases hf
    exact kR _ _ _ _ hW dX5_clashesAt_75
  exact X5_clashesAt_L5_c _ _ _ _ FU _ _ _ _ _ hW (lv_sub hl [2, 3, 4, 1, 0] rfl) h17 (fun _ H locs ls e hW hl => by cases e; exact J18 H locs ls hW hl)
end
section
abbrev rm_X6_add : Room := { frames := 1, cells := 0, slots := 0, locals := 60 }
set_option maxHeartbeats 4000000 in
set_option maxRecDepth 100000 in
theorem c_X6_add (l : Launch) (E : En) (S : St) (a1 : Int32) (r : Int32) (S1 : St) (hf : X6_add S a1 = some (r, S1)) : Mi l E yX6_add cX6_add 3 (some .int) rm_X6_add [.ref (E.ad 2), .int a1] S r S1 := by
  refine g_startI (cc := cX6_add) (n := 3) (by decide) (Nat.le_of_ble_eq_true rfl) ?_
  intro p e s m args below meth c Q H locs C kR hW ls hl
  obtain ⟨⟨hx, hb, hml, hown, hts⟩, hK, hT⟩ := id C
  have hl : lv_has ls 3 [(0, .ref (E.ad 2)), (1, .int a1)] := hl
  unfold X6_add at hf
  refine lv_aload_n hx hb dX6_add_0 rfl (lv_at hl 0 rfl) ?_
  refine g_get (ci := 6) (k := 0) (val := .int (rI S 2 0)) C g_us hW rfl rfl rfl (in_sid _ rfl) (by decide) f_RX6_28 rfl dX6_add_1 ?_
  refine lv_istore_n (lv' := [(2, .int (rI S 2 0)), (0, .ref (E.ad 2)), (1, .int a1)]) hx hb dX6_add_4 rfl hl (by decide) rfl (fun ls hl => ?_)
  refine lv_aload_n hx hb dX6_add_5 rfl (lv_at hl 1 rfl) ?_
  refine lv_dup hx hb dX6_add_6 rfl ?_
  refine g_get (ci := 6) (k := 0) (val := .int (rI S 2 0)) C g_us hW rfl rfl rfl (in_sid _ rfl) (by decide) f_RX6_28 rfl dX6_add_7 ?_
  refine lv_iconst (v := 1) hx hb dX6_add_10 (by decide) ?_
  refine lv_iadd hx hb dX6_add_11 ?_
  replace hf := bd_so hf
  obtain ⟨S1, h2, hf⟩ := hf
  refine g_putI (ci := 6) (k := 0) C g_us hW rfl rfl rfl (in_sid _ rfl) (by decide) f_RX6_28 rfl rfl rfl h2 dX6_add_12 (fun H locs hW => ?_)
  refine g_getsN1 C hW f_RX6_37 dX6_add_15 ?_
  refine lv_iconst (v := 0) hx hb dX6_add_18 (by decide) ?_
  refine lv_aload_n hx hb dX6_add_19 rfl (lv_at hl 1 rfl) ?_
  refine g_get (ci := 6) (k := 3) (val := .ref (E.ad 3)) C g_us hW rfl rfl rfl (in_sid _ rfl) (by decide) f_RX6_18 rfl dX6_add_20 ?_
  refine lv_iload_n hx hb dX6_add_23 rfl (lv_at hl 0 rfl) ?_
  refine lv_bipush (v := 6) hx hb dX6_add_24 (by decide) ?_
  refine lv_imul hx hb dX6_add_26 ?_
  refine lv_bipush (v := 6) hx hb dX6_add_27 (by decide) ?_
  replace hf := bd_so hf
  obtain ⟨S3, h4, hf⟩ := hf
  refine g_copyF C g_us hW hl.1 k_RX6_31 (Nat.le_of_ble_eq_true rfl) (Nat.le_of_ble_eq_true rfl) h4 dX6_add_29 (fun H locs hW => ?_)
  refine lv_aload_n hx hb dX6_add_32 rfl (lv_at hl 1 rfl) ?_
  refine g_get (ci := 6) (k := 3) (val := .ref (E.ad 3)) C g_us hW rfl rfl rfl (in_sid _ rfl) (by decide) f_RX6_18 rfl dX6_add_33 ?_
  refine lv_iload_n hx hb dX6_add_36 rfl (lv_at hl 0 rfl) ?_
  refine lv_bipush (v := 6) hx hb dX6_add_37 (by decide) ?_
  refine lv_imul hx hb dX6_add_39 ?_
  refine lv_iconst (v := 0) hx hb dX6_add_40 (by decide) ?_
  refine lv_iadd hx hb dX6_add_41 ?_
  refine lv_iload_n hx hb dX6_add_42 rfl (lv_at hl 2 rfl) ?_
  replace hf := bd_so hf
  obtain ⟨S5, h6, hf⟩ := hf
  refine g_iast C hW h6 dX6_add_43 (fun H locs hW => ?_)
  refine lv_iload_n hx hb dX6_add_44 rfl (lv_at hl 0 rfl) ?_
  cases hf
  exact kR _ _ _ _ hW dX6_add_45

abbrev rm_X6_has : Room := { frames := 1, cells := 0, slots := 0, locals := 60 }
set_option maxHeartbeats 4000000 in
set_option maxRecDepth 100000 in
theorem c_X6_has (l : Launch) (E : En) (S : St) (a1 : Int32) (r : Int32) (hf : X6_has S a1 = some r) : Mi l E yX6_has cX6_has 2 (some .boolean) rm_X6_has [.ref (E.ad 2), .int a1] S r S := by
  refine g_startZ (cc := cX6_has) (n := 2) (by decide) (Nat.le_of_ble_eq_true rfl) ?_
  intro p e s m args below meth c Q H locs C kR hW ls hl
  obtain ⟨⟨hx, hb, hml, hown, hts⟩, hK, hT⟩ := id C
  have hl : lv_has ls 2 [(0, .ref (E.ad 2)), (1, .int a1)] := hl
  unfold X6_has at hf
  refine lv_iload_n hx hb dX6_has_0 rfl (lv_at hl 1 rfl) ?_
  refine lv_if_lt (tgt := 16) hx hb dX6_has_1 (by decide) (fun c1 => ?_) (fun c1 => ?_)
  · replace hf := ift_ hf c1
    refine lv_iconst (v := 0) hx hb dX6_has_16 (by decide) ?_
    cases hf
    exact kR _ _ _ _ hW (Or.inl rfl) dX6_has_17
  · replace hf := iff_ hf c1
    refine lv_iload_n hx hb dX6_has_4 rfl (lv_at hl 1 rfl) ?_
    refine lv_aload_n hx hb dX6_has_5 rfl (lv_at hl 0 rfl) ?_
    refine g_get (ci := 6) (k := 0) (val := .int (rI S 2 0)) C g_us hW rfl rfl rfl (in_sid _ rfl) (by decide) f_RX6_28 rfl dX6_has_6 ?_
    refine lv_icmp_ge (tgt := 16) hx hb dX6_has_9 (by decide) (fun c2 => ?_) (fun c2 => ?_)
    · replace hf := ift_ hf c2
      refine lv_iconst (v := 0) hx hb dX6_has_16 (by decide) ?_
      cases hf
      exact kR _ _ _ _ hW (Or.inl rfl) dX6_has_17
    · replace hf := iff_ hf c2
      refine lv_iconst (v := 1) hx hb dX6_has_12 (by decide) ?_
      refine lv_goto (tgt := 17) hx hb dX6_has_13 (by decide) ?_
      cases hf
      exact kR _ _ _ _ hW (Or.inr rfl) dX6_has_17

abbrev rm_X6_hasTwo : Room := { frames := 2, cells := 0, slots := 0, locals := 81 }
set_option maxHeartbeats 4000000 in
set_option maxRecDepth 100000 in
theorem c_X6_hasTwo (l : Launch) (E : En) (S : St) (a1 : Int32) (a2 : Int32) (r : Int32) (hf : X6_hasTwo S a1 a2 = some r) : Mi l E yX6_hasTwo cX6_hasTwo 3 (some .boolean) rm_X6_hasTwo [.ref (E.ad 2), .int a1, .int a2] S r S := by
  refine g_startZ (cc := cX6_hasTwo) (n := 3) (by decide) (Nat.le_of_ble_eq_true rfl) ?_
  intro p e s m args below meth c Q H locs C kR hW ls hl
  obtain ⟨⟨hx, hb, hml, hown, hts⟩, hK, hT⟩ := id C
  have hl : lv_has ls 3 [(0, .ref (E.ad 2)), (1, .int a1), (2, .int a2)] := hl
  unfold X6_hasTwo at hf
  refine lv_aload_n hx hb dX6_hasTwo_0 rfl (lv_at hl 0 rfl) ?_
  refine lv_iload_n hx hb dX6_hasTwo_1 rfl (lv_at hl 1 rfl) ?_
  replace hf := bd_so hf
  obtain ⟨x2, h1, hf⟩ := hf
  refine g_callVi (ci := 6) (As := [.int a1]) (rest := []) C g_us hW hl.1 (c_X6_has l E S a1 _ h1) rfl rfl rfl (in_sid _ rfl) k_RX6_40 rfl ⟨rfl, rfl⟩ ⟨Nat.le_of_ble_eq_true rfl, Nat.le_of_ble_eq_true rfl⟩ ⟨Nat.zero_le _, Nat.zero_le _⟩ _ rfl (Nat.le_of_ble_eq_true rfl) dX6_hasTwo_2 (fun H locs hW => ?_)
  refine lv_if_eq (tgt := 25) hx hb dX6_hasTwo_5 (by decide) (fun c3 => ?_) (fun c3 => ?_)
  · replace hf := ift_ hf c3
    refine lv_iconst (v := 0) hx hb dX6_hasTwo_25 (by decide) ?_
    cases hf
    exact kR _ _ _ _ hW (Or.inl rfl) dX6_hasTwo_26
  · replace hf := iff_ hf c3
    refine lv_aload_n hx hb dX6_hasTwo_8 rfl (lv_at hl 0 rfl) ?_
    refine lv_iload_n hx hb dX6_hasTwo_9 rfl (lv_at hl 2 rfl) ?_
    replace hf := bd_so hf
    obtain ⟨x5, h4, hf⟩ := hf
    refine g_callVi (ci := 6) (As := [.int a2]) (rest := []) C g_us hW hl.1 (c_X6_has l E S a2 _ h4) rfl rfl rfl (in_sid _ rfl) k_RX6_40 rfl ⟨rfl, rfl⟩ ⟨Nat.le_of_ble_eq_true rfl, Nat.le_of_ble_eq_true rfl⟩ ⟨Nat.zero_le _, Nat.zero_le _⟩ _ rfl (Nat.le_of_ble_eq_true rfl) dX6_hasTwo_10 (fun H locs hW => ?_)
    refine lv_if_eq (tgt := 25) hx hb dX6_hasTwo_13 (by decide) (fun c6 => ?_) (fun c6 => ?_)
    · replace hf := ift_ hf c6
      refine lv_iconst (v := 0) hx hb dX6_hasTwo_25 (by decide) ?_
      cases hf
      exact kR _ _ _ _ hW (Or.inl rfl) dX6_hasTwo_26
    · replace hf := iff_ hf c6
      refine lv_iload_n hx hb dX6_hasTwo_16 rfl (lv_at hl 1 rfl) ?_
      refine lv_iload_n hx hb dX6_hasTwo_17 rfl (lv_at hl 2 rfl) ?_
      refine lv_icmp_eq (tgt := 25) hx hb dX6_hasTwo_18 (by decide) (fun c7 => ?_) (fun c7 => ?_)
      · replace hf := ift_ hf c7
        refine lv_iconst (v := 0) hx hb dX6_hasTwo_25 (by decide) ?_
        cases hf
        exact kR _ _ _ _ hW (Or.inl rfl) dX6_hasTwo_26
      · replace hf := iff_ hf c7
        refine lv_iconst (v := 1) hx hb dX6_hasTwo_21 (by decide) ?_
        refine lv_goto (tgt := 26) hx hb dX6_hasTwo_22 (by decide) ?_
        cases hf
        exact kR _ _ _ _ hW (Or.inr rfl) dX6_hasTwo_26

abbrev rm_X6_change : Room := { frames := 2, cells := 0, slots := 0, locals := 82 }
set_option maxHeartbeats 4000000 in
set_option maxRecDepth 100000 in
theorem c_X6_change (l : Launch) (E : En) (S : St) (a1 : Int32) (a2 : Int32) (a3 : Int32) (r : Int32) (S1 : St) (hf : X6_change S a1 a2 a3 = some (r, S1)) : Mi l E yX6_change cX6_change 5 (some .int) rm_X6_change [.ref (E.ad 2), .int a1, .int a2, .int a3] S r S1 := by
  refine g_startI (cc := cX6_change) (n := 5) (by decide) (Nat.le_of_ble_eq_true rfl) ?_
  intro p e s m args below meth c Q H locs C kR hW ls hl
  obtain ⟨⟨hx, hb, hml, hown, hts⟩, hK, hT⟩ := id C
  have hl : lv_has ls 5 [(0, .ref (E.ad 2)), (1, .int a1), (2, .int a2), (3, .int a3)] := hl
  unfold X6_change at hf
  refine lv_aload_n hx hb dX6_change_0 rfl (lv_at hl 0 rfl) ?_
  refine lv_iload_n hx hb dX6_change_1 rfl (lv_at hl 1 rfl) ?_
  refine lv_iload_n hx hb dX6_change_2 rfl (lv_at hl 2 rfl) ?_
  replace hf := bd_so hf
  obtain ⟨x2, h1, hf⟩ := hf
  refine g_callVi (ci := 6) (As := [.int a1, .int a2]) (rest := []) C g_us hW hl.1 (c_X6_value l E S a1 a2 _ h1) rfl rfl rfl (in_sid _ rfl) k_RX6_44 rfl ⟨rfl, rfl⟩ ⟨Nat.le_of_ble_eq_true rfl, Nat.le_of_ble_eq_true rfl⟩ ⟨Nat.zero_le _, Nat.zero_le _⟩ _ rfl (Nat.le_of_ble_eq_true rfl) dX6_change_3 (fun H locs hW => ?_)
  refine lv_istore (lv' := [(4, .int x2), (0, .ref (E.ad 2)), (1, .int a1), (2, .int a2), (3, .int a3)]) hx hb dX6_change_6 hl (by decide) rfl (fun ls hl => ?_)
  refine lv_aload_n hx hb dX6_change_8 rfl (lv_at hl 1 rfl) ?_
  refine g_get (ci := 6) (k := 3) (val := .ref (E.ad 3)) C g_us hW rfl rfl rfl (in_sid _ rfl) (by decide) f_RX6_18 rfl dX6_change_9 ?_
  refine lv_iload_n hx hb dX6_change_12 rfl (lv_at hl 2 rfl) ?_
  refine lv_bipush (v := 6) hx hb dX6_change_13 (by decide) ?_
  refine lv_imul hx hb dX6_change_15 ?_
  refine lv_iload_n hx hb dX6_change_16 rfl (lv_at hl 3 rfl) ?_
  refine lv_iadd hx hb dX6_change_17 ?_
  refine lv_iload_n hx hb dX6_change_18 rfl (lv_at hl 4 rfl) ?_
  replace hf := bd_so hf
  obtain ⟨S3, h4, hf⟩ := hf
  refine g_iast C hW h4 dX6_change_19 (fun H locs hW => ?_)
  refine lv_iload hx hb dX6_change_20 (lv_at hl 0 rfl) ?_
  cases hf
  exact kR _ _ _ _ hW dX6_change_22

abbrev rm_X6_all : Room := { frames := 1, cells := 0, slots := 0, locals := 60 }
set_option maxHeartbeats 4000000 in
set_option maxRecDepth 100000 in
theorem c_X6_all (l : Launch) (E : En) (S : St) (r : Int32) (hf : X6_all S  = some r) : Mi l E yX6_all cX6_all 1 (some .int) rm_X6_all [.ref (E.ad 2)] S r S := by
  refine g_startI (cc := cX6_all) (n := 1) (by decide) (Nat.le_of_ble_eq_true rfl) ?_
  intro p e s m args below meth c Q H locs C kR hW ls hl
  obtain ⟨⟨hx, hb, hml, hown, hts⟩, hK, hT⟩ := id C
  have hl : lv_has ls 1 [(0, .ref (E.ad 2))] := hl
  unfold X6_all at hf
  refine lv_iconst (v := 1) hx hb dX6_all_0 (by decide) ?_
  refine lv_aload_n hx hb dX6_all_1 rfl (lv_at hl 0 rfl) ?_
  refine g_get (ci := 6) (k := 0) (val := .int (rI S 2 0)) C g_us hW rfl rfl rfl (in_sid _ rfl) (by decide) f_RX6_28 rfl dX6_all_2 ?_
  refine lv_ishl hx hb dX6_all_5 ?_
  refine lv_iconst (v := 1) hx hb dX6_all_6 (by decide) ?_
  refine lv_isub hx hb dX6_all_7 ?_
  cases hf
  exact kR _ _ _ _ hW dX6_all_8

abbrev rm_X6_uncut : Room := { frames := 3, cells := 0, slots := 0, locals := 103 }
set_option maxHeartbeats 4000000 in
set_option maxRecDepth 100000 in
theorem c_X6_uncut (l : Launch) (E : En) (S : St) (r : Int32) (hf : X6_uncut S  = some r) : Mi l E yX6_uncut cX6_uncut 3 (some .int) rm_X6_uncut [.ref (E.ad 2)] S r S := by
  refine g_startI (cc := cX6_uncut) (n := 3) (by decide) (Nat.le_of_ble_eq_true rfl) ?_
  intro p e s m args below meth c Q H locs C kR hW ls hl
  obtain ⟨⟨hx, hb, hml, hown, hts⟩, hK, hT⟩ := id C
  have hl : lv_has ls 3 [(0, .ref (E.ad 2))] := hl
  have X6_uncut_L4_c : ∀ (S : St) (res : Int32) (n : Nat) (v1 : Int32) (v2 : Int32) (H : Heap) (locs : List Loc) (ls : Array Slot), Ww E S s H locs → lv_has ls 3 [(0, .ref (E.ad 2)), (1, .int v1), (2, .int v2)] → X6_uncut_L4 S  n v1 v2 = some res → (∀ (w1 : Int32) (H : Heap) (locs : List Loc) (ls : Array Slot), some w1 = some res → Ww E S s H locs → lv_has ls 3 [(1, .int w1)] → W p l e rm_X6_uncut s m args below meth c H locs 0 0 Q (F0 m 36 ls [])) → W p l e rm_X6_uncut s m args below meth c H locs 0 0 Q (F0 m 4 ls []) := by
    intro S  res n
    induction n with
    | zero =>
      intro v1 v2 H locs ls hW hl hf
      cases hf
    | succ n ih =>
      intro v1 v2 H locs ls hW hl hf kE
      unfold X6_uncut_L4 at hf
      refine lv_iload_n hx hb dX6_uncut_4 rfl (lv_at hl 2 rfl) ?_
      refine lv_aload_n hx hb dX6_uncut_5 rfl (lv_at hl 0 rfl) ?_
      refine g_get (ci := 6) (k := 0) (val := .int (rI S 2 0)) C g_us hW rfl rfl rfl (in_sid _ rfl) (by decide) f_RX6_28 rfl dX6_uncut_6 ?_
      refine lv_icmp_ge (tgt := 36) hx hb dX6_uncut_9 (by decide) (fun c1 => ?_) (fun c1 => ?_)
      · replace hf := ift_ hf c1
        exact kE _ _ _ _ hf hW (lv_sub hl [1] rfl)
      · replace hf := iff_ hf c1
        refine lv_iload_n hx hb dX6_uncut_12 rfl (lv_at hl 1 rfl) ?_
        refine lv_aload_n hx hb dX6_uncut_13 rfl (lv_at hl 0 rfl) ?_
        refine lv_iload_n hx hb dX6_uncut_14 rfl (lv_at hl 2 rfl) ?_
        replace hf := bd_so hf
        obtain ⟨x3, h2, hf⟩ := hf
        refine g_callVi (ci := 6) (As := [.int v2]) (rest := [.int v1]) C g_us hW hl.1 (c_X6_isCut l E S v2 _ h2) rfl rfl rfl (in_sid _ rfl) k_RX6_51 rfl ⟨rfl, rfl⟩ ⟨Nat.le_of_ble_eq_true rfl, Nat.le_of_ble_eq_true rfl⟩ ⟨Nat.zero_le _, Nat.zero_le _⟩ _ rfl (Nat.le_of_ble_eq_true rfl) dX6_uncut_15 (fun H locs hW => ?_)
        replace hf := bd_so hf
        obtain ⟨x5, h6, hf⟩ := hf
        have J7 : ∀ (H : Heap) (locs : List Loc) (ls : Array Slot), Ww E S s H locs → lv_has ls 3 [(0, .ref (E.ad 2)), (2, .int v2)] → W p l e rm_X6_uncut s m args below meth c H locs 0 0 Q (F0 m 28 ls [.int x5, .int v1]) := by
          intro H locs ls hW hl
          refine lv_ior hx hb dX6_uncut_28 ?_
          refine lv_istore_n (lv' := [(1, .int (v1 ||| x5)), (0, .ref (E.ad 2)), (2, .int v2)]) hx hb dX6_uncut_29 rfl hl (by decide) rfl (fun ls hl => ?_)
          refine lv_iinc (v := (v2 + 1)) (lv' := [(2, .int (v2 + 1)), (1, .int (v1 ||| x5)), (0, .ref (E.ad 2))]) hx hb dX6_uncut_30 hl (k := 2) rfl rfl (by decide) rfl (fun ls hl => ?_)
          refine lv_goto (tgt := 4) hx hb dX6_uncut_33 (by decide) ?_
          exact ih _ _ _ _ _ hW (lv_sub hl [2, 1, 0] rfl) hf kE
        clear hf
        have hf := h6
        clear h6
        refine lv_if_eq (tgt := 25) hx hb dX6_uncut_18 (by decide) (fun c4 => ?_) (fun c4 => ?_)
        · replace hf := ift_ hf c4
          refine lv_iconst (v := 1) hx hb dX6_uncut_25 (by decide) ?_
          refine lv_iload_n hx hb dX6_uncut_26 rfl (lv_at hl 2 rfl) ?_
          refine lv_ishl hx hb dX6_uncut_27 ?_
          cases hf
          exact J7 _ _ _ hW (lv_sub hl [0, 2] rfl)
        · replace hf := iff_ hf c4
          refine lv_iconst (v := 0) hx hb dX6_uncut_21 (by decide) ?_
          refine lv_goto (tgt := 28) hx hb dX6_uncut_22 (by decide) ?_
          cases hf
          exact J7 _ _ _ hW (lv_sub hl [0, 2] rfl)
  unfold X6_uncut at hf
  refine lv_iconst (v := 0) hx hb dX6_uncut_0 (by decide) ?_
  refine lv_istore_n (lv' := [(1, .int 0), (0, .ref (E.ad 2))]) hx hb dX6_uncut_1 rfl hl (by decide) rfl (fun ls hl => ?_)
  refine lv_iconst (v := 0) hx hb dX6_uncut_2 (by decide) ?_
  refine lv_istore_n (lv' := [(2, .int 0), (1, .int 0), (0, .ref (E.ad 2))]) hx hb dX6_uncut_3 rfl hl (by decide) rfl (fun ls hl => ?_)
  replace hf := bd_so hf
  obtain ⟨x8, h9, hf⟩ := hf
  have J10 : ∀ (H : Heap) (locs : List Loc) (ls : Array Slot), Ww E S s H locs → lv_has ls 3 [(1, .int x8)] → W p l e rm_X6_uncut s m args below meth c H locs 0 0 Q (F0 m 36 ls []) := by
    intro H locs ls hW hl
    refine lv_iload_n hx hb dX6_uncut_36 rfl (lv_at hl 0 rfl) ?_
    cases hf
    exact kR _ _ _ _ hW dX6_uncut_37
  exact X6_uncut_L4_c _ _ FU _ _ _ _ _ hW (lv_sub hl [2, 1, 0] rfl) h9 (fun _ H locs ls e hW hl => by cases e; exact J10 H locs ls hW hl)

abbrev rm_X6_lay : Room := { frames := 2, cells := 0, slots := 0, locals := 82 }
set_option maxHeartbeats 4000000 in
set_option maxRecDepth 100000 in
theorem c_X6_lay (l : Launch) (E : En) (S : St) (a1 : Int32) (a2 : Int32) (a3 : Int32) (r : Int32) (S1 : St) (hf : X6_lay S a1 a2 a3 = some (r, S1)) : Mi l E yX6_lay cX6_lay 5 (some .int) rm_X6_lay [.ref (E.ad 2), .int a1, .int a2, .int a3] S r S1 := by
  refine g_startI (cc := cX6_lay) (n := 5) (by decide) (Nat.le_of_ble_eq_true rfl) ?_
  intro p e s m args below meth c Q H locs C kR hW ls hl
  obtain ⟨⟨hx, hb, hml, hown, hts⟩, hK, hT⟩ := id C
  have hl : lv_has ls 5 [(0, .ref (E.ad 2)), (1, .int a1), (2, .int a2), (3, .int a3)] := hl
  unfold X6_lay at hf
  refine lv_aload_n hx hb dX6_lay_0 rfl (lv_at hl 0 rfl) ?_
  refine lv_iload_n hx hb dX6_lay_1 rfl (lv_at hl 1 rfl) ?_
  refine lv_iload_n hx hb dX6_lay_2 rfl (lv_at hl 2 rfl) ?_
  replace hf := bd_so hf
  obtain ⟨x2, h1, hf⟩ := hf
  refine g_callVi (ci := 6) (As := [.int a1, .int a2]) (rest := []) C g_us hW hl.1 (c_X6_between l E S a1 a2 _ h1) rfl rfl rfl (in_sid _ rfl) k_RX6_54 rfl ⟨rfl, rfl⟩ ⟨Nat.le_of_ble_eq_true rfl, Nat.le_of_ble_eq_true rfl⟩ ⟨Nat.zero_le _, Nat.zero_le _⟩ _ rfl (Nat.le_of_ble_eq_true rfl) dX6_lay_3 (fun H locs hW => ?_)
  refine lv_istore (lv' := [(4, .int x2), (0, .ref (E.ad 2)), (1, .int a1), (2, .int a2), (3, .int a3)]) hx hb dX6_lay_6 hl (by decide) rfl (fun ls hl => ?_)
  refine lv_aload_n hx hb dX6_lay_8 rfl (lv_at hl 1 rfl) ?_
  refine g_get (ci := 6) (k := 4) (val := .ref (E.ad 4)) C g_us hW rfl rfl rfl (in_sid _ rfl) (by decide) f_RX6_22 rfl dX6_lay_9 ?_
  refine lv_iload_n hx hb dX6_lay_12 rfl (lv_at hl 2 rfl) ?_
  refine lv_bipush (v := 8) hx hb dX6_lay_13 (by decide) ?_
  refine lv_imul hx hb dX6_lay_15 ?_
  refine lv_iload_n hx hb dX6_lay_16 rfl (lv_at hl 3 rfl) ?_
  refine lv_iadd hx hb dX6_lay_17 ?_
  refine lv_iload_n hx hb dX6_lay_18 rfl (lv_at hl 4 rfl) ?_
  replace hf := bd_so hf
  obtain ⟨S3, h4, hf⟩ := hf
  refine g_iast C hW h4 dX6_lay_19 (fun H locs hW => ?_)
  refine lv_iload hx hb dX6_lay_20 (lv_at hl 0 rfl) ?_
  cases hf
  exact kR _ _ _ _ hW dX6_lay_22

abbrev rm_X6_canLayAll : Room := { frames := 1, cells := 0, slots := 0, locals := 60 }
set_option maxHeartbeats 4000000 in
set_option maxRecDepth 100000 in
theorem c_X6_canLayAll (l : Launch) (E : En) (S : St) (a2 : Nat) (a1 : Int32) (a3 : Int32) (r : Int32) (hf : X6_canLayAll S a2 a1 a3 = some r) : Mi l E yX6_canLayAll cX6_canLayAll 6 (some .boolean) rm_X6_canLayAll [.ref (E.ad 2), .int a1, .ref (E.ad a2), .int a3] S r S := by
  refine g_startZ (cc := cX6_canLayAll) (n := 6) (by decide) (Nat.le_of_ble_eq_true rfl) ?_
  intro p e s m args below meth c Q H locs C kR hW ls hl
  obtain ⟨⟨hx, hb, hml, hown, hts⟩, hK, hT⟩ := id C
  have hl : lv_has ls 6 [(0, .ref (E.ad 2)), (1, .int a1), (2, .ref (E.ad a2)), (3, .int a3)] := hl
  have X6_canLayAll_L3_c : ∀ (S : St) (v1 : Int32) (v2 : Nat) (v3 : Int32) (res : (Unit) ⊕ (Int32)) (n : Nat) (v4 : Int32) (H : Heap) (locs : List Loc) (ls : Array Slot), Ww E S s H locs → lv_has ls 6 [(0, .ref (E.ad 2)), (1, .int v1), (2, .ref (E.ad v2)), (3, .int v3), (4, .int v4)] → X6_canLayAll_L3 S v1 v2 v3 n v4 = some res → (∀ (H : Heap) (locs : List Loc) (ls : Array Slot), some (.inl ()) = some res → Ww E S s H locs → lv_has ls 6 [] → W p l e rm_X6_canLayAll s m args below meth c H locs 0 0 Q (F0 m 55 ls [])) → (∀ (r0 : Int32) (H : Heap) (locs : List Loc) (pc : Nat) (ls : Array Slot), some (.inr r0) = some res → Ww E S s H locs → (r0 = 0 ∨ r0 = 1) → decode cX6_canLayAll pc = .ok (.ireturn, 1) → W p l e rm_X6_canLayAll s m args below meth c H locs 0 0 Q (F0 m pc ls [.int r0])) → W p l e rm_X6_canLayAll s m args below meth c H locs 0 0 Q (F0 m 3 ls []) := by
    intro S v1 v2 v3 res n
    induction n with
    | zero =>
      intro v4 H locs ls hW hl hf
      cases hf
    | succ n ih =>
      intro v4 H locs ls hW hl hf kE kR
      unfold X6_canLayAll_L3 at hf
      refine lv_iload hx hb dX6_canLayAll_3 (lv_at hl 4 rfl) ?_
      refine lv_aload_n hx hb dX6_canLayAll_5 rfl (lv_at hl 0 rfl) ?_
      refine g_get (ci := 6) (k := 0) (val := .int (rI S 2 0)) C g_us hW rfl rfl rfl (in_sid _ rfl) (by decide) f_RX6_28 rfl dX6_canLayAll_6 ?_
      refine lv_icmp_ge (tgt := 55) hx hb dX6_canLayAll_9 (by decide) (fun c1 => ?_) (fun c1 => ?_)
      · replace hf := ift_ hf c1
        exact kE  _ _ _ hf hW (lv_sub hl [] rfl)
      · replace hf := iff_ hf c1
        refine lv_aload_n hx hb dX6_canLayAll_12 rfl (lv_at hl 2 rfl) ?_
        replace hf := bd_so hf
        obtain ⟨_, h2, hf⟩ := hf
        refine g_get (ci := 7) (k := 2) (val := .ref (E.ad (v2 + 1))) C g_us hW rfl (if_so h2).1.1 (if_so h2).1.2.1 (if_so h2).1.2.2 (by decide) f_RX6_57 rfl dX6_canLayAll_13 ?_
        refine lv_iload_n hx hb dX6_canLayAll_16 rfl (lv_at hl 3 rfl) ?_
        refine lv_iload hx hb dX6_canLayAll_17 (lv_at hl 4 rfl) ?_
        refine lv_iadd hx hb dX6_canLayAll_19 ?_
        replace hf := bd_so hf
        obtain ⟨x3, h4, hf⟩ := hf
        refine g_iald C hW h4 dX6_canLayAll_20 ?_
        refine lv_istore (lv' := [(5, .int x3), (0, .ref (E.ad 2)), (1, .int v1), (2, .ref (E.ad v2)), (3, .int v3), (4, .int v4)]) hx hb dX6_canLayAll_21 hl (by decide) rfl (fun ls hl => ?_)
        refine lv_iload hx hb dX6_canLayAll_23 (lv_at hl 0 rfl) ?_
        refine lv_if_lt (tgt := 47) hx hb dX6_canLayAll_25 (by decide) (fun c5 => ?_) (fun c5 => ?_)
        · replace hf := ift_ hf c5
          refine lv_iconst (v := 0) hx hb dX6_canLayAll_47 (by decide) ?_
          exact kR _ _ _ _ _ hf hW (Or.inl rfl) dX6_canLayAll_48
        · replace hf := iff_ hf c5
          refine lv_iload hx hb dX6_canLayAll_28 (lv_at hl 0 rfl) ?_
          refine lv_sipush (v := 400) hx hb dX6_canLayAll_30 (by decide) ?_
          refine lv_icmp_gt (tgt := 47) hx hb dX6_canLayAll_33 (by decide) (fun c6 => ?_) (fun c6 => ?_)
          · replace hf := ift_ hf c6
            refine lv_iconst (v := 0) hx hb dX6_canLayAll_47 (by decide) ?_
            exact kR _ _ _ _ _ hf hW (Or.inl rfl) dX6_canLayAll_48
          · replace hf := iff_ hf c6
            refine lv_iload hx hb dX6_canLayAll_36 (lv_at hl 5 rfl) ?_
            refine lv_iload_n hx hb dX6_canLayAll_38 rfl (lv_at hl 2 rfl) ?_
            refine lv_icmp_ne (tgt := 49) hx hb dX6_canLayAll_39 (by decide) (fun c7 => ?_) (fun c7 => ?_)
            · replace hf := iff_ hf c7
              refine lv_iinc (v := (v4 + 1)) (lv' := [(4, .int (v4 + 1)), (5, .int x3), (0, .ref (E.ad 2)), (1, .int v1), (2, .ref (E.ad v2)), (3, .int v3)]) hx hb dX6_canLayAll_49 hl (k := 5) rfl rfl (by decide) rfl (fun ls hl => ?_)
              refine lv_goto (tgt := 3) hx hb dX6_canLayAll_52 (by decide) ?_
              exact ih _ _ _ _ hW (lv_sub hl [2, 3, 4, 5, 0] rfl) hf kE kR
            · replace hf := ift_ hf c7
              refine lv_iload hx hb dX6_canLayAll_42 (lv_at hl 0 rfl) ?_
              refine lv_if_eq (tgt := 49) hx hb dX6_canLayAll_44 (by decide) (fun c8 => ?_) (fun c8 => ?_)
              · replace hf := ift_ hf c8
                refine lv_iinc (v := (v4 + 1)) (lv' := [(4, .int (v4 + 1)), (5, .int x3), (0, .ref (E.ad 2)), (1, .int v1), (2, .ref (E.ad v2)), (3, .int v3)]) hx hb dX6_canLayAll_49 hl (k := 5) rfl rfl (by decide) rfl (fun ls hl => ?_)
                refine lv_goto (tgt := 3) hx hb dX6_canLayAll_52 (by decide) ?_
                exact ih _ _ _ _ hW (lv_sub hl [2, 3, 4, 5, 0] rfl) hf kE kR
              · replace hf := iff_ hf c8
                refine lv_iconst (v := 0) hx hb dX6_canLayAll_47 (by decide) ?_
                exact kR _ _ _ _ _ hf hW (Or.inl rfl) dX6_canLayAll_48
  unfold X6_canLayAll at hf
  refine lv_iconst (v := 0) hx hb dX6_canLayAll_0 (by decide) ?_
  refine lv_istore (lv' := [(4, .int 0), (0, .ref (E.ad 2)), (1, .int a1), (2, .ref (E.ad a2)), (3, .int a3)]) hx hb dX6_canLayAll_1 hl (by decide) rfl (fun ls hl => ?_)
  replace hf := bd_so hf
  obtain ⟨t, h9, hf⟩ := hf
  rcases t with u | x11
  · dsimp only at hf
    have J10 : ∀ (H : Heap) (locs : List Loc) (ls : Array Slot), Ww E S s H locs → lv_has ls 6 [] → W p l e rm_X6_canLayAll s m args below meth c H locs 0 0 Q (F0 m 55 ls []) := by
      intro H locs ls hW hl
      refine lv_iconst (v := 1) hx hb dX6_canLayAll_55 (by decide) ?_
      cases hf
      exact kR _ _ _ _ hW (Or.inr rfl) dX6_canLayAll_56
    exact X6_canLayAll_L3_c _ _ _ _ _ FU _ _ _ _ hW (lv_sub hl [1, 2, 3, 4, 0] rfl) h9 (fun H locs ls e hW hl => by cases e; exact J10 H locs ls hW hl) (fun _ H locs pc ls e hW hz dd => by cases e)
  · dsimp only at hf
    refine X6_canLayAll_L3_c _ _ _ _ _ FU _ _ _ _ hW (lv_sub hl [1, 2, 3, 4, 0] rfl) h9 (fun H locs ls e hW hl => by cases e) (fun _ H locs pc ls e hW hz dd => ?_)
    cases e
    cases hf
    exact kR _ _ _ _ hW hz dd

abbrev rm_X6_layAll : Room := { frames := 3, cells := 0, slots := 0, locals := 106 }
set_option maxHeartbeats 4000000 in
set_option maxRecDepth 100000 in
theorem c_X6_layAll (l : Launch) (E : En) (S : St) (a2 : Nat) (a1 : Int32) (a3 : Int32) (r : Int32) (S1 : St) (hf : X6_layAll S a2 a1 a3 = some (r, S1)) : Mi l E yX6_layAll cX6_layAll 6 (some .int) rm_X6_layAll [.ref (E.ad 2), .int a1, .ref (E.ad a2), .int a3] S r S1 := by
  refine g_startI (cc := cX6_layAll) (n := 6) (by decide) (Nat.le_of_ble_eq_true rfl) ?_
  intro p e s m args below meth c Q H locs C kR hW ls hl
  obtain ⟨⟨hx, hb, hml, hown, hts⟩, hK, hT⟩ := id C
  have hl : lv_has ls 6 [(0, .ref (E.ad 2)), (1, .int a1), (2, .ref (E.ad a2)), (3, .int a3)] := hl
  have X6_layAll_L6_c : ∀ (v1 : Int32) (v2 : Nat) (v3 : Int32) (res : Int32 × St) (n : Nat) (v4 : Int32) (v5 : Int32) (S : St) (H : Heap) (locs : List Loc) (ls : Array Slot), Ww E S s H locs → lv_has ls 6 [(0, .ref (E.ad 2)), (1, .int v1), (2, .ref (E.ad v2)), (3, .int v3), (4, .int v4), (5, .int v5)] → X6_layAll_L6 v1 v2 v3 n v4 v5 S = some res → (∀ (w4 : Int32) (T : St) (H : Heap) (locs : List Loc) (ls : Array Slot), some (w4, T) = some res → Ww E T s H locs → lv_has ls 6 [(4, .int w4)] → W p l e rm_X6_layAll s m args below meth c H locs 0 0 Q (F0 m 58 ls [])) → W p l e rm_X6_layAll s m args below meth c H locs 0 0 Q (F0 m 6 ls []) := by
    intro v1 v2 v3 res n
    induction n with
    | zero =>
      intro v4 v5 S H locs ls hW hl hf
      cases hf
    | succ n ih =>
      intro v4 v5 S H locs ls hW hl hf kE
      unfold X6_layAll_L6 at hf
      refine lv_iload hx hb dX6_layAll_6 (lv_at hl 5 rfl) ?_
      refine lv_aload_n hx hb dX6_layAll_8 rfl (lv_at hl 0 rfl) ?_
      refine g_get (ci := 6) (k := 0) (val := .int (rI S 2 0)) C g_us hW rfl rfl rfl (in_sid _ rfl) (by decide) f_RX6_28 rfl dX6_layAll_9 ?_
      refine lv_icmp_ge (tgt := 58) hx hb dX6_layAll_12 (by decide) (fun c1 => ?_) (fun c1 => ?_)
      · replace hf := ift_ hf c1
        exact kE _ _ _ _ _ hf hW (lv_sub hl [4] rfl)
      · replace hf := iff_ hf c1
        refine lv_aload_n hx hb dX6_layAll_15 rfl (lv_at hl 0 rfl) ?_
        refine lv_iload_n hx hb dX6_layAll_16 rfl (lv_at hl 1 rfl) ?_
        refine lv_iload hx hb dX6_layAll_17 (lv_at hl 5 rfl) ?_
        refine lv_aload_n hx hb dX6_layAll_19 rfl (lv_at hl 2 rfl) ?_
        replace hf := bd_so hf
        obtain ⟨_, h2, hf⟩ := hf
        refine g_get (ci := 7) (k := 2) (val := .ref (E.ad (v2 + 1))) C g_us hW rfl (if_so h2).1.1 (if_so h2).1.2.1 (if_so h2).1.2.2 (by decide) f_RX6_57 rfl dX6_layAll_20 ?_
        refine lv_iload_n hx hb dX6_layAll_23 rfl (lv_at hl 3 rfl) ?_
        refine lv_iload hx hb dX6_layAll_24 (lv_at hl 5 rfl) ?_
        refine lv_iadd hx hb dX6_layAll_26 ?_
        replace hf := bd_so hf
        obtain ⟨x3, h4, hf⟩ := hf
        refine g_iald C hW h4 dX6_layAll_27 ?_
        replace hf := bd_so hf
        obtain ⟨⟨x6, S7⟩, h5, hf⟩ := hf
        dsimp only at hf
        refine g_callVi (ci := 6) (As := [.int v1, .int v5, .int x3]) (rest := []) C g_us hW hl.1 (c_X6_lay l E S v1 v5 x3 _ _ h5) rfl rfl rfl (in_sid _ rfl) k_RX6_62 rfl ⟨rfl, rfl⟩ ⟨Nat.le_of_ble_eq_true rfl, Nat.le_of_ble_eq_true rfl⟩ ⟨Nat.zero_le _, Nat.zero_le _⟩ _ rfl (Nat.le_of_ble_eq_true rfl) dX6_layAll_28 (fun H locs hW => ?_)
        refine lv_pop hx hb dX6_layAll_31 rfl ?_
        refine lv_iload hx hb dX6_layAll_32 (lv_at hl 4 rfl) ?_
        refine lv_aload_n hx hb dX6_layAll_34 rfl (lv_at hl 0 rfl) ?_
        refine lv_iload_n hx hb dX6_layAll_35 rfl (lv_at hl 1 rfl) ?_
        refine lv_iload hx hb dX6_layAll_36 (lv_at hl 5 rfl) ?_
        replace hf := bd_so hf
        obtain ⟨x9, h8, hf⟩ := hf
        refine g_callVi (ci := 6) (As := [.int v1, .int v5]) (rest := [.int v4]) C g_us hW hl.1 (c_X6_between l E S7 v1 v5 _ h8) rfl rfl rfl (in_sid _ rfl) k_RX6_54 rfl ⟨rfl, rfl⟩ ⟨Nat.le_of_ble_eq_true rfl, Nat.le_of_ble_eq_true rfl⟩ ⟨Nat.zero_le _, Nat.zero_le _⟩ _ rfl (Nat.le_of_ble_eq_true rfl) dX6_layAll_38 (fun H locs hW => ?_)
        replace hf := bd_so hf
        obtain ⟨x11, h12, hf⟩ := hf
        have J13 : ∀ (H : Heap) (locs : List Loc) (ls : Array Slot), Ww E S7 s H locs → lv_has ls 6 [(0, .ref (E.ad 2)), (1, .int v1), (2, .ref (E.ad v2)), (3, .int v3), (5, .int v5)] → W p l e rm_X6_layAll s m args below meth c H locs 0 0 Q (F0 m 49 ls [.int x11, .int v4]) := by
          intro H locs ls hW hl
          refine lv_iadd hx hb dX6_layAll_49 ?_
          refine lv_istore (lv' := [(4, .int (v4 + x11)), (0, .ref (E.ad 2)), (1, .int v1), (2, .ref (E.ad v2)), (3, .int v3), (5, .int v5)]) hx hb dX6_layAll_50 hl (by decide) rfl (fun ls hl => ?_)
          refine lv_iinc (v := (v5 + 1)) (lv' := [(5, .int (v5 + 1)), (4, .int (v4 + x11)), (0, .ref (E.ad 2)), (1, .int v1), (2, .ref (E.ad v2)), (3, .int v3)]) hx hb dX6_layAll_52 hl (k := 5) rfl rfl (by decide) rfl (fun ls hl => ?_)
          refine lv_goto (tgt := 6) hx hb dX6_layAll_55 (by decide) ?_
          exact ih _ _ _ _ _ _ hW (lv_sub hl [2, 3, 4, 5, 1, 0] rfl) hf kE
        clear hf
        have hf := h12
        clear h12
        refine lv_if_le (tgt := 48) hx hb dX6_layAll_41 (by decide) (fun c10 => ?_) (fun c10 => ?_)
        · replace hf := ift_ hf c10
          refine lv_iconst (v := 0) hx hb dX6_layAll_48 (by decide) ?_
          cases hf
          exact J13 _ _ _ hW (lv_sub hl [0, 1, 2, 3, 5] rfl)
        · replace hf := iff_ hf c10
          refine lv_iconst (v := 1) hx hb dX6_layAll_44 (by decide) ?_
          refine lv_goto (tgt := 49) hx hb dX6_layAll_45 (by decide) ?_
          cases hf
          exact J13 _ _ _ hW (lv_sub hl [0, 1, 2, 3, 5] rfl)
  unfold X6_layAll at hf
  refine lv_iconst (v := 0) hx hb dX6_layAll_0 (by decide) ?_
  refine lv_istore (lv' := [(4, .int 0), (0, .ref (E.ad 2)), (1, .int a1), (2, .ref (E.ad a2)), (3, .int a3)]) hx hb dX6_layAll_1 hl (by decide) rfl (fun ls hl => ?_)
  refine lv_iconst (v := 0) hx hb dX6_layAll_3 (by decide) ?_
  refine lv_istore (lv' := [(5, .int 0), (4, .int 0), (0, .ref (E.ad 2)), (1, .int a1), (2, .ref (E.ad a2)), (3, .int a3)]) hx hb dX6_layAll_4 hl (by decide) rfl (fun ls hl => ?_)
  replace hf := bd_so hf
  obtain ⟨⟨x14, S15⟩, h16, hf⟩ := hf
  dsimp only at hf
  have J17 : ∀ (H : Heap) (locs : List Loc) (ls : Array Slot), Ww E S15 s H locs → lv_has ls 6 [(4, .int x14)] → W p l e rm_X6_layAll s m args below meth c H locs 0 0 Q (F0 m 58 ls []) := by
    intro H locs ls hW hl
    refine lv_iload hx hb dX6_layAll_58 (lv_at hl 0 rfl) ?_
    cases hf
    exact kR _ _ _ _ hW dX6_layAll_60
  exact X6_layAll_L6_c _ _ _ _ FU _ _ _ _ _ _ hW (lv_sub hl [2, 3, 4, 5, 1, 0] rfl) h16 (fun _ _ H locs ls e hW hl => by cases e; exact J17 H locs ls hW hl)

abbrev rm_X6_wiresInAll : Room := { frames := 1, cells := 0, slots := 0, locals := 60 }
set_option maxHeartbeats 4000000 in
set_option maxRecDepth 100000 in
theorem c_X6_wiresInAll (l : Launch) (E : En) (S : St) (r : Int32) (hf : X6_wiresInAll S  = some r) : Mi l E yX6_wiresInAll cX6_wiresInAll 6 (some .int) rm_X6_wiresInAll [.ref (E.ad 2)] S r S := by
  refine g_startI (cc := cX6_wiresInAll) (n := 6) (by decide) (Nat.le_of_ble_eq_true rfl) ?_
  intro p e s m args below meth c Q H locs C kR hW ls hl
  obtain ⟨⟨hx, hb, hml, hown, hts⟩, hK, hT⟩ := id C
  have hl : lv_has ls 6 [(0, .ref (E.ad 2))] := hl
  have X6_wiresInAll_L13_c : ∀ (S : St) (v3 : Int32) (res : Int32) (n : Nat) (v1 : Int32) (v4 : Int32) (H : Heap) (locs : List Loc) (ls : Array Slot), Ww E S s H locs → lv_has ls 6 [(1, .int v1), (2, .ref (E.ad 4)), (3, .int v3), (4, .int v4)] → X6_wiresInAll_L13 S v3 n v1 v4 = some res → (∀ (w1 : Int32) (H : Heap) (locs : List Loc) (ls : Array Slot), some w1 = some res → Ww E S s H locs → lv_has ls 6 [(1, .int w1)] → W p l e rm_X6_wiresInAll s m args below meth c H locs 0 0 Q (F0 m 44 ls [])) → W p l e rm_X6_wiresInAll s m args below meth c H locs 0 0 Q (F0 m 13 ls []) := by
    intro S v3 res n
    induction n with
    | zero =>
      intro v1 v4 H locs ls hW hl hf
      cases hf
    | succ n ih =>
      intro v1 v4 H locs ls hW hl hf kE
      unfold X6_wiresInAll_L13 at hf
      refine lv_iload hx hb dX6_wiresInAll_13 (lv_at hl 3 rfl) ?_
      refine lv_iload_n hx hb dX6_wiresInAll_15 rfl (lv_at hl 2 rfl) ?_
      refine lv_icmp_ge (tgt := 44) hx hb dX6_wiresInAll_16 (by decide) (fun c3 => ?_) (fun c3 => ?_)
      · replace hf := ift_ hf c3
        exact kE _ _ _ _ hf hW (lv_sub hl [0] rfl)
      · replace hf := iff_ hf c3
        refine lv_aload_n hx hb dX6_wiresInAll_19 rfl (lv_at hl 1 rfl) ?_
        refine lv_iload hx hb dX6_wiresInAll_20 (lv_at hl 3 rfl) ?_
        replace hf := bd_so hf
        obtain ⟨x4, h5, hf⟩ := hf
        refine g_iald C hW h5 dX6_wiresInAll_22 ?_
        refine lv_istore (lv' := [(5, .int x4), (1, .int v1), (2, .ref (E.ad 4)), (3, .int v3), (4, .int v4)]) hx hb dX6_wiresInAll_23 hl (by decide) rfl (fun ls hl => ?_)
        refine lv_iload_n hx hb dX6_wiresInAll_25 rfl (lv_at hl 1 rfl) ?_
        refine lv_iload hx hb dX6_wiresInAll_26 (lv_at hl 0 rfl) ?_
        replace hf := bd_so hf
        obtain ⟨x7, h8, hf⟩ := hf
        have J9 : ∀ (H : Heap) (locs : List Loc) (ls : Array Slot), Ww E S s H locs → lv_has ls 6 [(2, .ref (E.ad 4)), (3, .int v3), (4, .int v4)] → W p l e rm_X6_wiresInAll s m args below meth c H locs 0 0 Q (F0 m 36 ls [.int x7, .int v1]) := by
          intro H locs ls hW hl
          refine lv_iadd hx hb dX6_wiresInAll_36 ?_
          refine lv_istore_n (lv' := [(1, .int (v1 + x7)), (2, .ref (E.ad 4)), (3, .int v3), (4, .int v4)]) hx hb dX6_wiresInAll_37 rfl hl (by decide) rfl (fun ls hl => ?_)
          refine lv_iinc (v := (v4 + 1)) (lv' := [(4, .int (v4 + 1)), (1, .int (v1 + x7)), (2, .ref (E.ad 4)), (3, .int v3)]) hx hb dX6_wiresInAll_38 hl (k := 3) rfl rfl (by decide) rfl (fun ls hl => ?_)
          refine lv_goto (tgt := 13) hx hb dX6_wiresInAll_41 (by decide) ?_
          exact ih _ _ _ _ _ hW (lv_sub hl [1, 2, 3, 0] rfl) hf kE
        clear hf
        have hf := h8
        clear h8
        refine lv_if_le (tgt := 35) hx hb dX6_wiresInAll_28 (by decide) (fun c6 => ?_) (fun c6 => ?_)
        · replace hf := ift_ hf c6
          refine lv_iconst (v := 0) hx hb dX6_wiresInAll_35 (by decide) ?_
          cases hf
          exact J9 _ _ _ hW (lv_sub hl [2, 3, 4] rfl)
        · replace hf := iff_ hf c6
          refine lv_iconst (v := 1) hx hb dX6_wiresInAll_31 (by decide) ?_
          refine lv_goto (tgt := 36) hx hb dX6_wiresInAll_32 (by decide) ?_
          cases hf
          exact J9 _ _ _ hW (lv_sub hl [2, 3, 4] rfl)
  unfold X6_wiresInAll at hf
  refine lv_iconst (v := 0) hx hb dX6_wiresInAll_0 (by decide) ?_
  refine lv_istore_n (lv' := [(1, .int 0), (0, .ref (E.ad 2))]) hx hb dX6_wiresInAll_1 rfl hl (by decide) rfl (fun ls hl => ?_)
  refine lv_aload_n hx hb dX6_wiresInAll_2 rfl (lv_at hl 1 rfl) ?_
  refine g_get (ci := 6) (k := 4) (val := .ref (E.ad 4)) C g_us hW rfl rfl rfl (in_sid _ rfl) (by decide) f_RX6_22 rfl dX6_wiresInAll_3 ?_
  refine lv_astore_n (lv' := [(2, .ref (E.ad 4)), (1, .int 0), (0, .ref (E.ad 2))]) hx hb dX6_wiresInAll_6 rfl hl (by decide) rfl (fun ls hl => ?_)
  refine lv_aload_n hx hb dX6_wiresInAll_7 rfl (lv_at hl 0 rfl) ?_
  replace hf := bd_so hf
  obtain ⟨x1, h2, hf⟩ := hf
  refine g_alen C hW h2 dX6_wiresInAll_8 ?_
  refine lv_istore_n (lv' := [(3, .int x1), (2, .ref (E.ad 4)), (1, .int 0), (0, .ref (E.ad 2))]) hx hb dX6_wiresInAll_9 rfl hl (by decide) rfl (fun ls hl => ?_)
  refine lv_iconst (v := 0) hx hb dX6_wiresInAll_10 (by decide) ?_
  refine lv_istore (lv' := [(4, .int 0), (3, .int x1), (2, .ref (E.ad 4)), (1, .int 0), (0, .ref (E.ad 2))]) hx hb dX6_wiresInAll_11 hl (by decide) rfl (fun ls hl => ?_)
  replace hf := bd_so hf
  obtain ⟨x10, h11, hf⟩ := hf
  have J12 : ∀ (H : Heap) (locs : List Loc) (ls : Array Slot), Ww E S s H locs → lv_has ls 6 [(1, .int x10)] → W p l e rm_X6_wiresInAll s m args below meth c H locs 0 0 Q (F0 m 44 ls []) := by
    intro H locs ls hW hl
    refine lv_iload_n hx hb dX6_wiresInAll_44 rfl (lv_at hl 0 rfl) ?_
    cases hf
    exact kR _ _ _ _ hW dX6_wiresInAll_45
  exact X6_wiresInAll_L13_c _ _ _ FU _ _ _ _ _ hW (lv_sub hl [3, 2, 1, 0] rfl) h11 (fun _ H locs ls e hW hl => by cases e; exact J12 H locs ls hW hl)

abbrev rm_X6_longestWire : Room := { frames := 2, cells := 0, slots := 0, locals := 82 }
set_option maxHeartbeats 4000000 in
set_option maxRecDepth 100000 in
theorem c_X6_longestWire (l : Launch) (E : En) (S : St) (a1 : Int32) (a2 : Int32) (r : Int32) (hf : X6_longestWire S a1 a2 = some r) : Mi l E yX6_longestWire cX6_longestWire 5 (some .int) rm_X6_longestWire [.ref (E.ad 2), .int a1, .int a2] S r S := by
  refine g_startI (cc := cX6_longestWire) (n := 5) (by decide) (Nat.le_of_ble_eq_true rfl) ?_
  intro p e s m args below meth c Q H locs C kR hW ls hl
  obtain ⟨⟨hx, hb, hml, hown, hts⟩, hK, hT⟩ := id C
  have hl : lv_has ls 5 [(0, .ref (E.ad 2)), (1, .int a1), (2, .int a2)] := hl
  have X6_longestWire_L5_c : ∀ (S : St) (v1 : Int32) (v2 : Int32) (res : Int32) (n : Nat) (v3 : Int32) (v4 : Int32) (H : Heap) (locs : List Loc) (ls : Array Slot), Ww E S s H locs → lv_has ls 5 [(0, .ref (E.ad 2)), (1, .int v1), (2, .int v2), (3, .int v3), (4, .int v4)] → X6_longestWire_L5 S v1 v2 n v3 v4 = some res → (∀ (w3 : Int32) (H : Heap) (locs : List Loc) (ls : Array Slot), some w3 = some res → Ww E S s H locs → lv_has ls 5 [(3, .int w3)] → W p l e rm_X6_longestWire s m args below meth c H locs 0 0 Q (F0 m 41 ls [])) → W p l e rm_X6_longestWire s m args below meth c H locs 0 0 Q (F0 m 5 ls []) := by
    intro S v1 v2 res n
    induction n with
    | zero =>
      intro v3 v4 H locs ls hW hl hf
      cases hf
    | succ n ih =>
      intro v3 v4 H locs ls hW hl hf kE
      unfold X6_longestWire_L5 at hf
      refine lv_iload hx hb dX6_longestWire_5 (lv_at hl 4 rfl) ?_
      refine lv_aload_n hx hb dX6_longestWire_7 rfl (lv_at hl 0 rfl) ?_
      refine g_get (ci := 6) (k := 0) (val := .int (rI S 2 0)) C g_us hW rfl rfl rfl (in_sid _ rfl) (by decide) f_RX6_28 rfl dX6_longestWire_8 ?_
      refine lv_icmp_ge (tgt := 41) hx hb dX6_longestWire_11 (by decide) (fun c1 => ?_) (fun c1 => ?_)
      · replace hf := ift_ hf c1
        exact kE _ _ _ _ hf hW (lv_sub hl [3] rfl)
      · replace hf := iff_ hf c1
        refine lv_iload_n hx hb dX6_longestWire_14 rfl (lv_at hl 2 rfl) ?_
        refine lv_iload hx hb dX6_longestWire_15 (lv_at hl 4 rfl) ?_
        refine lv_ishr hx hb dX6_longestWire_17 ?_
        refine lv_iconst (v := 1) hx hb dX6_longestWire_18 (by decide) ?_
        refine lv_iand hx hb dX6_longestWire_19 ?_
        replace hf := bd_so hf
        obtain ⟨x3, h4, hf⟩ := hf
        have J5 : ∀ (H : Heap) (locs : List Loc) (ls : Array Slot), Ww E S s H locs → lv_has ls 5 [(0, .ref (E.ad 2)), (1, .int v1), (2, .int v2), (3, .int x3), (4, .int v4)] → W p l e rm_X6_longestWire s m args below meth c H locs 0 0 Q (F0 m 35 ls []) := by
          intro H locs ls hW hl
          refine lv_iinc (v := (v4 + 1)) (lv' := [(4, .int (v4 + 1)), (0, .ref (E.ad 2)), (1, .int v1), (2, .int v2), (3, .int x3)]) hx hb dX6_longestWire_35 hl (k := 4) rfl rfl (by decide) rfl (fun ls hl => ?_)
          refine lv_goto (tgt := 5) hx hb dX6_longestWire_38 (by decide) ?_
          exact ih _ _ _ _ _ hW (lv_sub hl [1, 2, 3, 4, 0] rfl) hf kE
        clear hf
        have hf := h4
        clear h4
        refine lv_if_eq (tgt := 35) hx hb dX6_longestWire_20 (by decide) (fun c2 => ?_) (fun c2 => ?_)
        · replace hf := ift_ hf c2
          cases hf
          exact J5 _ _ _ hW (lv_sub hl [0, 1, 2, 3, 4] rfl)
        · replace hf := iff_ hf c2
          refine lv_iload_n hx hb dX6_longestWire_23 rfl (lv_at hl 3 rfl) ?_
          refine lv_aload_n hx hb dX6_longestWire_24 rfl (lv_at hl 0 rfl) ?_
          refine lv_iload hx hb dX6_longestWire_25 (lv_at hl 4 rfl) ?_
          refine lv_iload_n hx hb dX6_longestWire_27 rfl (lv_at hl 1 rfl) ?_
          replace hf := bd_so hf
          obtain ⟨x7, h6, hf⟩ := hf
          refine g_callVi (ci := 6) (As := [.int v4, .int v1]) (rest := [.int v3]) C g_us hW hl.1 (c_X6_between l E S v4 v1 _ h6) rfl rfl rfl (in_sid _ rfl) k_RX6_54 rfl ⟨rfl, rfl⟩ ⟨Nat.le_of_ble_eq_true rfl, Nat.le_of_ble_eq_true rfl⟩ ⟨Nat.zero_le _, Nat.zero_le _⟩ _ rfl (Nat.le_of_ble_eq_true rfl) dX6_longestWire_28 (fun H locs hW => ?_)
          refine g_max C g_us hl.1 k_RX6_66 (Nat.le_of_ble_eq_true rfl) (Nat.le_of_ble_eq_true rfl) ⟨Nat.zero_le _, Nat.zero_le _⟩ dX6_longestWire_31 ?_
          refine lv_istore_n (lv' := [(3, .int (if v3 < x7 then x7 else v3)), (0, .ref (E.ad 2)), (1, .int v1), (2, .int v2), (4, .int v4)]) hx hb dX6_longestWire_34 rfl hl (by decide) rfl (fun ls hl => ?_)
          cases hf
          exact J5 _ _ _ hW (lv_sub hl [1, 2, 3, 0, 4] rfl)
  unfold X6_longestWire at hf
  refine lv_iconst (v := 0) hx hb dX6_longestWire_0 (by decide) ?_
  refine lv_istore_n (lv' := [(3, .int 0), (0, .ref (E.ad 2)), (1, .int a1), (2, .int a2)]) hx hb dX6_longestWire_1 rfl hl (by decide) rfl (fun ls hl => ?_)
  refine lv_iconst (v := 0) hx hb dX6_longestWire_2 (by decide) ?_
  refine lv_istore (lv' := [(4, .int 0), (3, .int 0), (0, .ref (E.ad 2)), (1, .int a1), (2, .int a2)]) hx hb dX6_longestWire_3 hl (by decide) rfl (fun ls hl => ?_)
  replace hf := bd_so hf
  obtain ⟨x8, h9, hf⟩ := hf
  have J10 : ∀ (H : Heap) (locs : List Loc) (ls : Array Slot), Ww E S s H locs → lv_has ls 5 [(3, .int x8)] → W p l e rm_X6_longestWire s m args below meth c H locs 0 0 Q (F0 m 41 ls []) := by
    intro H locs ls hW hl
    refine lv_iload_n hx hb dX6_longestWire_41 rfl (lv_at hl 0 rfl) ?_
    cases hf
    exact kR _ _ _ _ hW dX6_longestWire_42
  exact X6_longestWire_L5_c _ _ _ _ FU _ _ _ _ _ hW (lv_sub hl [2, 3, 4, 1, 0] rfl) h9 (fun _ H locs ls e hW hl => by cases e; exact J10 H locs ls hW hl)

abbrev rm_X6_costOfHolding : Room := { frames := 2, cells := 0, slots := 0, locals := 82 }
set_option maxHeartbeats 4000000 in
set_option maxRecDepth 100000 in
theorem c_X6_costOfHolding (l : Launch) (E : En) (S : St) (a1 : Int32) (a2 : Int32) (a3 : Int32) (r : Int32) (hf : X6_costOfHolding S a1 a2 a3 = some r) : Mi l E yX6_costOfHolding cX6_costOfHolding 6 (some .int) rm_X6_costOfHolding [.ref (E.ad 2), .int a1, .int a2, .int a3] S r S := by
  refine g_startI (cc := cX6_costOfHolding) (n := 6) (by decide) (Nat.le_of_ble_eq_true rfl) ?_
  intro p e s m args below meth c Q H locs C kR hW ls hl
  obtain ⟨⟨hx, hb, hml, hown, hts⟩, hK, hT⟩ := id C
  have hl : lv_has ls 6 [(0, .ref (E.ad 2)), (1, .int a1), (2, .int a2), (3, .int a3)] := hl
  have X6_costOfHolding_L6_c : ∀ (S : St) (v1 : Int32) (v2 : Int32) (v3 : Int32) (res : Int32) (n : Nat) (v4 : Int32) (v5 : Int32) (H : Heap) (locs : List Loc) (ls : Array Slot), Ww E S s H locs → lv_has ls 6 [(0, .ref (E.ad 2)), (1, .int v1), (2, .int v2), (3, .int v3), (4, .int v4), (5, .int v5)] → X6_costOfHolding_L6 S v1 v2 v3 n v4 v5 = some res → (∀ (w4 : Int32) (H : Heap) (locs : List Loc) (ls : Array Slot), some w4 = some res → Ww E S s H locs → lv_has ls 6 [(4, .int w4)] → W p l e rm_X6_costOfHolding s m args below meth c H locs 0 0 Q (F0 m 44 ls [])) → W p l e rm_X6_costOfHolding s m args below meth c H locs 0 0 Q (F0 m 6 ls []) := by
    intro S v1 v2 v3 res n
    induction n with
    | zero =>
      intro v4 v5 H locs ls hW hl hf
      cases hf
    | succ n ih =>
      intro v4 v5 H locs ls hW hl hf kE
      unfold X6_costOfHolding_L6 at hf
      refine lv_iload hx hb dX6_costOfHolding_6 (lv_at hl 5 rfl) ?_
      refine lv_aload_n hx hb dX6_costOfHolding_8 rfl (lv_at hl 0 rfl) ?_
      refine g_get (ci := 6) (k := 0) (val := .int (rI S 2 0)) C g_us hW rfl rfl rfl (in_sid _ rfl) (by decide) f_RX6_28 rfl dX6_costOfHolding_9 ?_
      refine lv_icmp_ge (tgt := 44) hx hb dX6_costOfHolding_12 (by decide) (fun c1 => ?_) (fun c1 => ?_)
      · replace hf := ift_ hf c1
        exact kE _ _ _ _ hf hW (lv_sub hl [4] rfl)
      · replace hf := iff_ hf c1
        refine lv_iload_n hx hb dX6_costOfHolding_15 rfl (lv_at hl 2 rfl) ?_
        refine lv_iload hx hb dX6_costOfHolding_16 (lv_at hl 5 rfl) ?_
        refine lv_ishr hx hb dX6_costOfHolding_18 ?_
        refine lv_iconst (v := 1) hx hb dX6_costOfHolding_19 (by decide) ?_
        refine lv_iand hx hb dX6_costOfHolding_20 ?_
        replace hf := bd_so hf
        obtain ⟨x3, h4, hf⟩ := hf
        have J5 : ∀ (H : Heap) (locs : List Loc) (ls : Array Slot), Ww E S s H locs → lv_has ls 6 [(0, .ref (E.ad 2)), (1, .int v1), (2, .int v2), (3, .int v3), (4, .int x3), (5, .int v5)] → W p l e rm_X6_costOfHolding s m args below meth c H locs 0 0 Q (F0 m 38 ls []) := by
          intro H locs ls hW hl
          refine lv_iinc (v := (v5 + 1)) (lv' := [(5, .int (v5 + 1)), (0, .ref (E.ad 2)), (1, .int v1), (2, .int v2), (3, .int v3), (4, .int x3)]) hx hb dX6_costOfHolding_38 hl (k := 5) rfl rfl (by decide) rfl (fun ls hl => ?_)
          refine lv_goto (tgt := 6) hx hb dX6_costOfHolding_41 (by decide) ?_
          exact ih _ _ _ _ _ hW (lv_sub hl [1, 2, 3, 4, 5, 0] rfl) hf kE
        clear hf
        have hf := h4
        clear h4
        refine lv_if_eq (tgt := 38) hx hb dX6_costOfHolding_21 (by decide) (fun c2 => ?_) (fun c2 => ?_)
        · replace hf := ift_ hf c2
          cases hf
          exact J5 _ _ _ hW (lv_sub hl [0, 1, 2, 3, 4, 5] rfl)
        · replace hf := iff_ hf c2
          refine lv_iload hx hb dX6_costOfHolding_24 (lv_at hl 4 rfl) ?_
          refine lv_iload_n hx hb dX6_costOfHolding_26 rfl (lv_at hl 3 rfl) ?_
          refine lv_aload_n hx hb dX6_costOfHolding_27 rfl (lv_at hl 0 rfl) ?_
          refine lv_iload hx hb dX6_costOfHolding_28 (lv_at hl 5 rfl) ?_
          refine lv_iload_n hx hb dX6_costOfHolding_30 rfl (lv_at hl 1 rfl) ?_
          replace hf := bd_so hf
          obtain ⟨x7, h6, hf⟩ := hf
          refine g_callVi (ci := 6) (As := [.int v5, .int v1]) (rest := [.int v3, .int v4]) C g_us hW hl.1 (c_X6_between l E S v5 v1 _ h6) rfl rfl rfl (in_sid _ rfl) k_RX6_54 rfl ⟨rfl, rfl⟩ ⟨Nat.le_of_ble_eq_true rfl, Nat.le_of_ble_eq_true rfl⟩ ⟨Nat.zero_le _, Nat.zero_le _⟩ _ rfl (Nat.le_of_ble_eq_true rfl) dX6_costOfHolding_31 (fun H locs hW => ?_)
          refine lv_isub hx hb dX6_costOfHolding_34 ?_
          refine lv_iadd hx hb dX6_costOfHolding_35 ?_
          refine lv_istore (lv' := [(4, .int (v4 + (v3 - x7))), (0, .ref (E.ad 2)), (1, .int v1), (2, .int v2), (3, .int v3), (5, .int v5)]) hx hb dX6_costOfHolding_36 hl (by decide) rfl (fun ls hl => ?_)
          cases hf
          exact J5 _ _ _ hW (lv_sub hl [1, 2, 3, 4, 0, 5] rfl)
  unfold X6_costOfHolding at hf
  refine lv_iconst (v := 0) hx hb dX6_costOfHolding_0 (by decide) ?_
  refine lv_istore (lv' := [(4, .int 0), (0, .ref (E.ad 2)), (1, .int a1), (2, .int a2), (3, .int a3)]) hx hb dX6_costOfHolding_1 hl (by decide) rfl (fun ls hl => ?_)
  refine lv_iconst (v := 0) hx hb dX6_costOfHolding_3 (by decide) ?_
  refine lv_istore (lv' := [(5, .int 0), (4, .int 0), (0, .ref (E.ad 2)), (1, .int a1), (2, .int a2), (3, .int a3)]) hx hb dX6_costOfHolding_4 hl (by decide) rfl (fun ls hl => ?_)
  replace hf := bd_so hf
  obtain ⟨x8, h9, hf⟩ := hf
  have J10 : ∀ (H : Heap) (locs : List Loc) (ls : Array Slot), Ww E S s H locs → lv_has ls 6 [(4, .int x8)] → W p l e rm_X6_costOfHolding s m args below meth c H locs 0 0 Q (F0 m 44 ls []) := by
    intro H locs ls hW hl
    refine lv_iload hx hb dX6_costOfHolding_44 (lv_at hl 0 rfl) ?_
    cases hf
    exact kR _ _ _ _ hW dX6_costOfHolding_46
  exact X6_costOfHolding_L6_c _ _ _ _ _ FU _ _ _ _ _ hW (lv_sub hl [2, 3, 4, 5, 1, 0] rfl) h9 (fun _ H locs ls e hW hl => by cases e; exact J10 H locs ls hW hl)

abbrev rm_X6_leastBeat : Room := { frames := 2, cells := 0, slots := 0, locals := 82 }
set_option maxHeartbeats 4000000 in
set_option maxRecDepth 100000 in
theorem c_X6_leastBeat (l : Launch) (E : En) (S : St) (a1 : Int32) (r : Int32) (hf : X6_leastBeat S a1 = some r) : Mi l E yX6_leastBeat cX6_leastBeat 4 (some .int) rm_X6_leastBeat [.ref (E.ad 2), .int a1] S r S := by
  refine g_startI (cc := cX6_leastBeat) (n := 4) (by decide) (Nat.le_of_ble_eq_true rfl) ?_
  intro p e s m args below meth c Q H locs C kR hW ls hl
  obtain ⟨⟨hx, hb, hml, hown, hts⟩, hK, hT⟩ := id C
  have hl : lv_has ls 4 [(0, .ref (E.ad 2)), (1, .int a1)] := hl
  have X6_leastBeat_L8_c : ∀ (S : St) (v1 : Int32) (res : Int32) (n : Nat) (v2 : Int32) (v3 : Int32) (H : Heap) (locs : List Loc) (ls : Array Slot), Ww E S s H locs → lv_has ls 4 [(0, .ref (E.ad 2)), (1, .int v1), (2, .int v2), (3, .int v3)] → X6_leastBeat_L8 S v1 n v2 v3 = some res → (∀ (w2 : Int32) (H : Heap) (locs : List Loc) (ls : Array Slot), some w2 = some res → Ww E S s H locs → lv_has ls 4 [(2, .int w2)] → W p l e rm_X6_leastBeat s m args below meth c H locs 0 0 Q (F0 m 41 ls [])) → W p l e rm_X6_leastBeat s m args below meth c H locs 0 0 Q (F0 m 8 ls []) := by
    intro S v1 res n
    induction n with
    | zero =>
      intro v2 v3 H locs ls hW hl hf
      cases hf
    | succ n ih =>
      intro v2 v3 H locs ls hW hl hf kE
      unfold X6_leastBeat_L8 at hf
      refine lv_iload_n hx hb dX6_leastBeat_8 rfl (lv_at hl 3 rfl) ?_
      refine lv_aload_n hx hb dX6_leastBeat_9 rfl (lv_at hl 0 rfl) ?_
      refine g_get (ci := 6) (k := 0) (val := .int (rI S 2 0)) C g_us hW rfl rfl rfl (in_sid _ rfl) (by decide) f_RX6_28 rfl dX6_leastBeat_10 ?_
      refine lv_icmp_ge (tgt := 41) hx hb dX6_leastBeat_13 (by decide) (fun c3 => ?_) (fun c3 => ?_)
      · replace hf := ift_ hf c3
        exact kE _ _ _ _ hf hW (lv_sub hl [2] rfl)
      · replace hf := iff_ hf c3
        refine lv_iload_n hx hb dX6_leastBeat_16 rfl (lv_at hl 1 rfl) ?_
        refine lv_iload_n hx hb dX6_leastBeat_17 rfl (lv_at hl 3 rfl) ?_
        refine lv_ishr hx hb dX6_leastBeat_18 ?_
        refine lv_iconst (v := 1) hx hb dX6_leastBeat_19 (by decide) ?_
        refine lv_iand hx hb dX6_leastBeat_20 ?_
        replace hf := bd_so hf
        obtain ⟨x5, h6, hf⟩ := hf
        have J7 : ∀ (H : Heap) (locs : List Loc) (ls : Array Slot), Ww E S s H locs → lv_has ls 4 [(0, .ref (E.ad 2)), (1, .int v1), (2, .int x5), (3, .int v3)] → W p l e rm_X6_leastBeat s m args below meth c H locs 0 0 Q (F0 m 35 ls []) := by
          intro H locs ls hW hl
          refine lv_iinc (v := (v3 + 1)) (lv' := [(3, .int (v3 + 1)), (0, .ref (E.ad 2)), (1, .int v1), (2, .int x5)]) hx hb dX6_leastBeat_35 hl (k := 3) rfl rfl (by decide) rfl (fun ls hl => ?_)
          refine lv_goto (tgt := 8) hx hb dX6_leastBeat_38 (by decide) ?_
          exact ih _ _ _ _ _ hW (lv_sub hl [1, 2, 3, 0] rfl) hf kE
        clear hf
        have hf := h6
        clear h6
        refine lv_if_eq (tgt := 35) hx hb dX6_leastBeat_21 (by decide) (fun c4 => ?_) (fun c4 => ?_)
        · replace hf := ift_ hf c4
          cases hf
          exact J7 _ _ _ hW (lv_sub hl [0, 1, 2, 3] rfl)
        · replace hf := iff_ hf c4
          refine lv_iload_n hx hb dX6_leastBeat_24 rfl (lv_at hl 2 rfl) ?_
          refine lv_aload_n hx hb dX6_leastBeat_25 rfl (lv_at hl 0 rfl) ?_
          refine lv_iload_n hx hb dX6_leastBeat_26 rfl (lv_at hl 3 rfl) ?_
          refine lv_iconst (v := 5) hx hb dX6_leastBeat_27 (by decide) ?_
          replace hf := bd_so hf
          obtain ⟨x9, h8, hf⟩ := hf
          refine g_callVi (ci := 6) (As := [.int v3, .int 5]) (rest := [.int v2]) C g_us hW hl.1 (c_X6_value l E S v3 5 _ h8) rfl rfl rfl (in_sid _ rfl) k_RX6_44 rfl ⟨rfl, rfl⟩ ⟨Nat.le_of_ble_eq_true rfl, Nat.le_of_ble_eq_true rfl⟩ ⟨Nat.zero_le _, Nat.zero_le _⟩ _ rfl (Nat.le_of_ble_eq_true rfl) dX6_leastBeat_28 (fun H locs hW => ?_)
          refine g_min C g_us hl.1 k_RX6_71 (Nat.le_of_ble_eq_true rfl) (Nat.le_of_ble_eq_true rfl) ⟨Nat.zero_le _, Nat.zero_le _⟩ dX6_leastBeat_31 ?_
          refine lv_istore_n (lv' := [(2, .int (if x9 < v2 then x9 else v2)), (0, .ref (E.ad 2)), (1, .int v1), (3, .int v3)]) hx hb dX6_leastBeat_34 rfl hl (by decide) rfl (fun ls hl => ?_)
          cases hf
          exact J7 _ _ _ hW (lv_sub hl [1, 2, 0, 3] rfl)
  unfold X6_leastBeat at hf
  refine g_getsN2 C hW f_RX6_74 dX6_leastBeat_0 ?_
  refine lv_iconst (v := 5) hx hb dX6_leastBeat_3 (by decide) ?_
  replace hf := bd_so hf
  obtain ⟨x1, h2, hf⟩ := hf
  refine g_tld2 C hW h2 dX6_leastBeat_4 ?_
  refine lv_istore_n (lv' := [(2, .int x1), (0, .ref (E.ad 2)), (1, .int a1)]) hx hb dX6_leastBeat_5 rfl hl (by decide) rfl (fun ls hl => ?_)
  refine lv_iconst (v := 0) hx hb dX6_leastBeat_6 (by decide) ?_
  refine lv_istore_n (lv' := [(3, .int 0), (2, .int x1), (0, .ref (E.ad 2)), (1, .int a1)]) hx hb dX6_leastBeat_7 rfl hl (by decide) rfl (fun ls hl => ?_)
  replace hf := bd_so hf
  obtain ⟨x10, h11, hf⟩ := hf
  have J12 : ∀ (H : Heap) (locs : List Loc) (ls : Array Slot), Ww E S s H locs → lv_has ls 4 [(2, .int x10)] → W p l e rm_X6_leastBeat s m args below meth c H locs 0 0 Q (F0 m 41 ls []) := by
    intro H locs ls hW hl
    refine lv_iload_n hx hb dX6_leastBeat_41 rfl (lv_at hl 0 rfl) ?_
    cases hf
    exact kR _ _ _ _ hW dX6_leastBeat_42
  exact X6_leastBeat_L8_c _ _ _ FU _ _ _ _ _ hW (lv_sub hl [2, 3, 1, 0] rfl) h11 (fun _ H locs ls e hW hl => by cases e; exact J12 H locs ls hW hl)

abbrev rm_X6_losesWord : Room := { frames := 1, cells := 0, slots := 0, locals := 60 }
set_option maxHeartbeats 4000000 in
set_option maxRecDepth 100000 in
theorem c_X6_losesWord (l : Launch) (E : En) (S : St) (a1 : Int32) (a2 : Int32) (a3 : Int32) (r : Int32) (hf : X6_losesWord S a1 a2 a3 = some r) : Mi l E yX6_losesWord cX6_losesWord 4 (some .boolean) rm_X6_losesWord [.ref (E.ad 2), .int a1, .int a2, .int a3] S r S := by
  refine g_startZ (cc := cX6_losesWord) (n := 4) (by decide) (Nat.le_of_ble_eq_true rfl) ?_
  intro p e s m args below meth c Q H locs C kR hW ls hl
  obtain ⟨⟨hx, hb, hml, hown, hts⟩, hK, hT⟩ := id C
  have hl : lv_has ls 4 [(0, .ref (E.ad 2)), (1, .int a1), (2, .int a2), (3, .int a3)] := hl
  unfold X6_losesWord at hf
  refine lv_aload_n hx hb dX6_losesWord_0 rfl (lv_at hl 0 rfl) ?_
  refine g_get (ci := 6) (k := 5) (val := .ref (E.ad 5)) C g_us hW rfl rfl rfl (in_sid _ rfl) (by decide) f_RX6_25 rfl dX6_losesWord_1 ?_
  refine lv_iload_n hx hb dX6_losesWord_4 rfl (lv_at hl 1 rfl) ?_
  refine lv_iconst (v := 1) hx hb dX6_losesWord_5 (by decide) ?_
  refine lv_isub hx hb dX6_losesWord_6 ?_
  refine lv_bipush (v := 8) hx hb dX6_losesWord_7 (by decide) ?_
  refine lv_imul hx hb dX6_losesWord_9 ?_
  refine lv_iload_n hx hb dX6_losesWord_10 rfl (lv_at hl 2 rfl) ?_
  refine lv_iadd hx hb dX6_losesWord_11 ?_
  replace hf := bd_so hf
  obtain ⟨x1, h2, hf⟩ := hf
  refine g_iald C hW h2 dX6_losesWord_12 ?_
  refine lv_iload_n hx hb dX6_losesWord_13 rfl (lv_at hl 3 rfl) ?_
  refine lv_ishr hx hb dX6_losesWord_14 ?_
  refine lv_iconst (v := 1) hx hb dX6_losesWord_15 (by decide) ?_
  refine lv_iand hx hb dX6_losesWord_16 ?_
  refine lv_if_eq (tgt := 24) hx hb dX6_losesWord_17 (by decide) (fun c3 => ?_) (fun c3 => ?_)
  · replace hf := ift_ hf c3
    refine lv_iconst (v := 0) hx hb dX6_losesWord_24 (by decide) ?_
    cases hf
    exact kR _ _ _ _ hW (Or.inl rfl) dX6_losesWord_25
  · replace hf := iff_ hf c3
    refine lv_iconst (v := 1) hx hb dX6_losesWord_20 (by decide) ?_
    refine lv_goto (tgt := 25) hx hb dX6_losesWord_21 (by decide) ?_
    cases hf
    exact kR _ _ _ _ hW (Or.inr rfl) dX6_losesWord_25

abbrev rm_X6_loseWord : Room := { frames := 2, cells := 0, slots := 0, locals := 83 }
set_option maxHeartbeats 4000000 in
set_option maxRecDepth 100000 in
theorem c_X6_loseWord (l : Launch) (E : En) (S : St) (a1 : Int32) (a2 : Int32) (a3 : Int32) (a4 : Int32) (r : Int32) (S1 : St) (hf : X6_loseWord S a1 a2 a3 a4 = some (r, S1)) : Mi l E yX6_loseWord cX6_loseWord 7 (some .int) rm_X6_loseWord [.ref (E.ad 2), .int a1, .int a2, .int a3, .int a4] S r S1 := by
  refine g_startI (cc := cX6_loseWord) (n := 7) (by decide) (Nat.le_of_ble_eq_true rfl) ?_
  intro p e s m args below meth c Q H locs C kR hW ls hl
  obtain ⟨⟨hx, hb, hml, hown, hts⟩, hK, hT⟩ := id C
  have hl : lv_has ls 7 [(0, .ref (E.ad 2)), (1, .int a1), (2, .int a2), (3, .int a3), (4, .int a4)] := hl
  unfold X6_loseWord at hf
  refine lv_aload_n hx hb dX6_loseWord_0 rfl (lv_at hl 0 rfl) ?_
  refine lv_iload_n hx hb dX6_loseWord_1 rfl (lv_at hl 1 rfl) ?_
  refine lv_iload_n hx hb dX6_loseWord_2 rfl (lv_at hl 2 rfl) ?_
  refine lv_iload_n hx hb dX6_loseWord_3 rfl (lv_at hl 3 rfl) ?_
  replace hf := bd_so hf
  obtain ⟨x2, h1, hf⟩ := hf
  refine g_callVi (ci := 6) (As := [.int a1, .int a2, .int a3]) (rest := []) C g_us hW hl.1 (c_X6_losesWord l E S a1 a2 a3 _ h1) rfl rfl rfl (in_sid _ rfl) k_RX6_77 rfl ⟨rfl, rfl⟩ ⟨Nat.le_of_ble_eq_true rfl, Nat.le_of_ble_eq_true rfl⟩ ⟨Nat.zero_le _, Nat.zero_le _⟩ _ rfl (Nat.le_of_ble_eq_true rfl) dX6_loseWord_4 (fun H locs hW => ?_)
  replace hf := bd_so hf
  obtain ⟨x4, h5, hf⟩ := hf
  have J6 : ∀ (H : Heap) (locs : List Loc) (ls : Array Slot), Ww E S s H locs → lv_has ls 7 [(0, .ref (E.ad 2)), (1, .int a1), (2, .int a2), (3, .int a3), (4, .int a4)] → W p l e rm_X6_loseWord s m args below meth c H locs 0 0 Q (F0 m 15 ls [.int x4]) := by
    intro H locs ls hW hl
    refine lv_istore (lv' := [(5, .int x4), (0, .ref (E.ad 2)), (1, .int a1), (2, .int a2), (3, .int a3), (4, .int a4)]) hx hb dX6_loseWord_15 hl (by decide) rfl (fun ls hl => ?_)
    refine lv_iload_n hx hb dX6_loseWord_17 rfl (lv_at hl 2 rfl) ?_
    refine lv_iconst (v := 1) hx hb dX6_loseWord_18 (by decide) ?_
    refine lv_isub hx hb dX6_loseWord_19 ?_
    refine lv_bipush (v := 8) hx hb dX6_loseWord_20 (by decide) ?_
    refine lv_imul hx hb dX6_loseWord_22 ?_
    refine lv_iload_n hx hb dX6_loseWord_23 rfl (lv_at hl 3 rfl) ?_
    refine lv_iadd hx hb dX6_loseWord_24 ?_
    refine lv_istore (lv' := [(6, .int (((a1 - 1) * 8) + a2)), (5, .int x4), (0, .ref (E.ad 2)), (1, .int a1), (2, .int a2), (3, .int a3), (4, .int a4)]) hx hb dX6_loseWord_25 hl (by decide) rfl (fun ls hl => ?_)
    refine lv_aload_n hx hb dX6_loseWord_27 rfl (lv_at hl 2 rfl) ?_
    refine g_get (ci := 6) (k := 5) (val := .ref (E.ad 5)) C g_us hW rfl rfl rfl (in_sid _ rfl) (by decide) f_RX6_25 rfl dX6_loseWord_28 ?_
    refine lv_iload hx hb dX6_loseWord_31 (lv_at hl 0 rfl) ?_
    refine lv_iload hx hb dX6_loseWord_33 (lv_at hl 6 rfl) ?_
    replace hf := bd_so hf
    obtain ⟨x8, h9, hf⟩ := hf
    have J10 : ∀ (H : Heap) (locs : List Loc) (ls : Array Slot), Ww E S s H locs → lv_has ls 7 [(5, .int x4)] → W p l e rm_X6_loseWord s m args below meth c H locs 0 0 Q (F0 m 65 ls [.int x8, .int (((a1 - 1) * 8) + a2), .ref (E.ad 5)]) := by
      intro H locs ls hW hl
      replace hf := bd_so hf
      obtain ⟨S11, h12, hf⟩ := hf
      refine g_iast C hW h12 dX6_loseWord_65 (fun H locs hW => ?_)
      refine lv_iload hx hb dX6_loseWord_66 (lv_at hl 0 rfl) ?_
      cases hf
      exact kR _ _ _ _ hW dX6_loseWord_68
    clear hf
    have hf := h9
    clear h9
    refine lv_if_eq (tgt := 52) hx hb dX6_loseWord_35 (by decide) (fun c7 => ?_) (fun c7 => ?_)
    · replace hf := ift_ hf c7
      refine lv_aload_n hx hb dX6_loseWord_52 rfl (lv_at hl 2 rfl) ?_
      refine g_get (ci := 6) (k := 5) (val := .ref (E.ad 5)) C g_us hW rfl rfl rfl (in_sid _ rfl) (by decide) f_RX6_25 rfl dX6_loseWord_53 ?_
      refine lv_iload hx hb dX6_loseWord_56 (lv_at hl 0 rfl) ?_
      replace hf := bd_so hf
      obtain ⟨x13, h14, hf⟩ := hf
      refine g_iald C hW h14 dX6_loseWord_58 ?_
      refine lv_iconst (v := 1) hx hb dX6_loseWord_59 (by decide) ?_
      refine lv_iload_n hx hb dX6_loseWord_60 rfl (lv_at hl 5 rfl) ?_
      refine lv_ishl hx hb dX6_loseWord_61 ?_
      refine lv_iconst (v := (-1)) hx hb dX6_loseWord_62 (by decide) ?_
      refine lv_ixor hx hb dX6_loseWord_63 ?_
      refine lv_iand hx hb dX6_loseWord_64 ?_
      cases hf
      exact J10 _ _ _ hW (lv_sub hl [1] rfl)
    · replace hf := iff_ hf c7
      refine lv_aload_n hx hb dX6_loseWord_38 rfl (lv_at hl 2 rfl) ?_
      refine g_get (ci := 6) (k := 5) (val := .ref (E.ad 5)) C g_us hW rfl rfl rfl (in_sid _ rfl) (by decide) f_RX6_25 rfl dX6_loseWord_39 ?_
      refine lv_iload hx hb dX6_loseWord_42 (lv_at hl 0 rfl) ?_
      replace hf := bd_so hf
      obtain ⟨x15, h16, hf⟩ := hf
      refine g_iald C hW h16 dX6_loseWord_44 ?_
      refine lv_iconst (v := 1) hx hb dX6_loseWord_45 (by decide) ?_
      refine lv_iload_n hx hb dX6_loseWord_46 rfl (lv_at hl 5 rfl) ?_
      refine lv_ishl hx hb dX6_loseWord_47 ?_
      refine lv_ior hx hb dX6_loseWord_48 ?_
      refine lv_goto (tgt := 65) hx hb dX6_loseWord_49 (by decide) ?_
      cases hf
      exact J10 _ _ _ hW (lv_sub hl [1] rfl)
  clear hf
  have hf := h5
  clear h5
  refine lv_if_eq (tgt := 14) hx hb dX6_loseWord_7 (by decide) (fun c3 => ?_) (fun c3 => ?_)
  · replace hf := ift_ hf c3
    refine lv_iconst (v := 0) hx hb dX6_loseWord_14 (by decide) ?_
    cases hf
    exact J6 _ _ _ hW (lv_sub hl [0, 1, 2, 3, 4] rfl)
  · replace hf := iff_ hf c3
    refine lv_iconst (v := 1) hx hb dX6_loseWord_10 (by decide) ?_
    refine lv_goto (tgt := 15) hx hb dX6_loseWord_11 (by decide) ?_
    cases hf
    exact J6 _ _ _ hW (lv_sub hl [0, 1, 2, 3, 4] rfl)

abbrev rm_X7_refusal : Room := { frames := 1, cells := 0, slots := 0, locals := 60 }
set_option maxHeartbeats 4000000 in
set_option maxRecDepth 100000 in
theorem c_X7_refusal (l : Launch) (E : En) (S : St) (a0 : Nat) (a1 : Int32) (r : Int32) (hf : X7_refusal S a0 a1 = some r) : Mi l E yX7_refusal cX7_refusal 2 (some .int) rm_X7_refusal [.ref (E.ad a0), .int a1] S r S := by
  refine g_startI (cc := cX7_refusal) (n := 2) (by decide) (Nat.le_of_ble_eq_true rfl) ?_
  intro p e s m args below meth c Q H locs C kR hW ls hl
  obtain ⟨⟨hx, hb, hml, hown, hts⟩, hK, hT⟩ := id C
  have hl : lv_has ls 2 [(0, .ref (E.ad a0)), (1, .int a1)] := hl
  unfold X7_refusal at hf
  refine lv_aload_n hx hb dX7_refusal_0 rfl (lv_at hl 0 rfl) ?_
  replace hf := bd_so hf
  obtain ⟨_, h1, hf⟩ := hf
  refine g_get (ci := 7) (k := 0) (val := .int (rI S a0 0)) C g_us hW rfl (if_so h1).1.1 (if_so h1).1.2.1 (if_so h1).1.2.2 (by decide) f_RX7_9 rfl dX7_refusal_1 ?_
  refine lv_iconst (v := (-1)) hx hb dX7_refusal_4 (by decide) ?_
  refine lv_icmp_ne (tgt := 11) hx hb dX7_refusal_5 (by decide) (fun c2 => ?_) (fun c2 => ?_)
  · replace hf := iff_ hf c2
    refine lv_aload_n hx hb dX7_refusal_11 rfl (lv_at hl 0 rfl) ?_
    replace hf := bd_so hf
    obtain ⟨_, h3, hf⟩ := hf
    refine g_get (ci := 7) (k := 0) (val := .int (rI S a0 0)) C g_us hW rfl (if_so h3).1.1 (if_so h3).1.2.1 (if_so h3).1.2.2 (by decide) f_RX7_9 rfl dX7_refusal_12 ?_
    refine lv_iload_n hx hb dX7_refusal_15 rfl (lv_at hl 1 rfl) ?_
    refine lv_icmp_ne (tgt := 23) hx hb dX7_refusal_16 (by decide) (fun c4 => ?_) (fun c4 => ?_)
    · replace hf := iff_ hf c4
      refine lv_bipush (v := (-12)) hx hb dX7_refusal_23 (by decide) ?_
      cases hf
      exact kR _ _ _ _ hW dX7_refusal_25
    · replace hf := ift_ hf c4
      refine lv_iconst (v := 0) hx hb dX7_refusal_19 (by decide) ?_
      refine lv_goto (tgt := 25) hx hb dX7_refusal_20 (by decide) ?_
      cases hf
      exact kR _ _ _ _ hW dX7_refusal_25
  · replace hf := ift_ hf c2
    refine lv_bipush (v := (-11)) hx hb dX7_refusal_8 (by decide) ?_
    cases hf
    exact kR _ _ _ _ hW dX7_refusal_10

abbrev rm_X7_holds : Room := { frames := 1, cells := 0, slots := 0, locals := 60 }
set_option maxHeartbeats 4000000 in
set_option maxRecDepth 100000 in
theorem c_X7_holds (l : Launch) (E : En) (S : St) (a0 : Nat) (a1 : Int32) (a2 : Int32) (r : Int32) (hf : X7_holds S a0 a1 a2 = some r) : Mi l E yX7_holds cX7_holds 3 (some .boolean) rm_X7_holds [.ref (E.ad a0), .int a1, .int a2] S r S := by
  refine g_startZ (cc := cX7_holds) (n := 3) (by decide) (Nat.le_of_ble_eq_true rfl) ?_
  intro p e s m args below meth c Q H locs C kR hW ls hl
  obtain ⟨⟨hx, hb, hml, hown, hts⟩, hK, hT⟩ := id C
  have hl : lv_has ls 3 [(0, .ref (E.ad a0)), (1, .int a1), (2, .int a2)] := hl
  unfold X7_holds at hf
  refine lv_iload_n hx hb dX7_holds_0 rfl (lv_at hl 1 rfl) ?_
  refine lv_if_lt (tgt := 30) hx hb dX7_holds_1 (by decide) (fun c1 => ?_) (fun c1 => ?_)
  · replace hf := ift_ hf c1
    refine lv_iconst (v := 0) hx hb dX7_holds_30 (by decide) ?_
    cases hf
    exact kR _ _ _ _ hW (Or.inl rfl) dX7_holds_31
  · replace hf := iff_ hf c1
    refine lv_iload_n hx hb dX7_holds_4 rfl (lv_at hl 2 rfl) ?_
    refine lv_if_lt (tgt := 30) hx hb dX7_holds_5 (by decide) (fun c2 => ?_) (fun c2 => ?_)
    · replace hf := ift_ hf c2
      refine lv_iconst (v := 0) hx hb dX7_holds_30 (by decide) ?_
      cases hf
      exact kR _ _ _ _ hW (Or.inl rfl) dX7_holds_31
    · replace hf := iff_ hf c2
      refine lv_iload_n hx hb dX7_holds_8 rfl (lv_at hl 2 rfl) ?_
      refine lv_aload_n hx hb dX7_holds_9 rfl (lv_at hl 0 rfl) ?_
      replace hf := bd_so hf
      obtain ⟨_, h3, hf⟩ := hf
      refine g_get (ci := 7) (k := 1) (val := .int (rI S a0 1)) C g_us hW rfl (if_so h3).1.1 (if_so h3).1.2.1 (if_so h3).1.2.2 (by decide) f_RX7_19 rfl dX7_holds_10 ?_
      refine lv_icmp_gt (tgt := 30) hx hb dX7_holds_13 (by decide) (fun c4 => ?_) (fun c4 => ?_)
      · replace hf := ift_ hf c4
        refine lv_iconst (v := 0) hx hb dX7_holds_30 (by decide) ?_
        cases hf
        exact kR _ _ _ _ hW (Or.inl rfl) dX7_holds_31
      · replace hf := iff_ hf c4
        refine lv_iload_n hx hb dX7_holds_16 rfl (lv_at hl 1 rfl) ?_
        refine lv_aload_n hx hb dX7_holds_17 rfl (lv_at hl 0 rfl) ?_
        replace hf := bd_so hf
        obtain ⟨_, h5, hf⟩ := hf
        refine g_get (ci := 7) (k := 1) (val := .int (rI S a0 1)) C g_us hW rfl (if_so h5).1.1 (if_so h5).1.2.1 (if_so h5).1.2.2 (by decide) f_RX7_19 rfl dX7_holds_18 ?_
        refine lv_iload_n hx hb dX7_holds_21 rfl (lv_at hl 2 rfl) ?_
        refine lv_isub hx hb dX7_holds_22 ?_
        refine lv_icmp_gt (tgt := 30) hx hb dX7_holds_23 (by decide) (fun c6 => ?_) (fun c6 => ?_)
        · replace hf := ift_ hf c6
          refine lv_iconst (v := 0) hx hb dX7_holds_30 (by decide) ?_
          cases hf
          exact kR _ _ _ _ hW (Or.inl rfl) dX7_holds_31
        · replace hf := iff_ hf c6
          refine lv_iconst (v := 1) hx hb dX7_holds_26 (by decide) ?_
          refine lv_goto (tgt := 31) hx hb dX7_holds_27 (by decide) ?_
          cases hf
          exact kR _ _ _ _ hW (Or.inr rfl) dX7_holds_31

abbrev rm_X7_renew : Room := { frames := 2, cells := 0, slots := 0, locals := 83 }
set_option maxHeartbeats 4000000 in
set_option maxRecDepth 100000 in
theorem c_X7_renew (l : Launch) (E : En) (S : St) (a0 : Nat) (a1 : Int32) (a2 : Int32) (r : Int32) (S1 : St) (hf : X7_renew S a0 a1 a2 = some (r, S1)) : Mi l E yX7_renew cX7_renew 3 (some .int) rm_X7_renew [.ref (E.ad a0), .int a1, .int a2] S r S1 := by
  refine g_startI (cc := cX7_renew) (n := 3) (by decide) (Nat.le_of_ble_eq_true rfl) ?_
  intro p e s m args below meth c Q H locs C kR hW ls hl
  obtain ⟨⟨hx, hb, hml, hown, hts⟩, hK, hT⟩ := id C
  have hl : lv_has ls 3 [(0, .ref (E.ad a0)), (1, .int a1), (2, .int a2)] := hl
  unfold X7_renew at hf
  refine lv_aload_n hx hb dX7_renew_0 rfl (lv_at hl 0 rfl) ?_
  refine lv_iload_n hx hb dX7_renew_1 rfl (lv_at hl 1 rfl) ?_
  replace hf := bd_so hf
  obtain ⟨_, h1, hf⟩ := hf
  replace hf := bd_so hf
  obtain ⟨S2, h3, hf⟩ := hf
  refine g_putI (ci := 7) (k := 0) C g_us hW rfl (if_so h1).1.1 (if_so h1).1.2.1 (if_so h1).1.2.2 (by decide) f_RX7_9 rfl rfl rfl h3 dX7_renew_2 (fun H locs hW => ?_)
  refine lv_aload_n hx hb dX7_renew_5 rfl (lv_at hl 0 rfl) ?_
  refine lv_iload_n hx hb dX7_renew_6 rfl (lv_at hl 2 rfl) ?_
  replace hf := bd_so hf
  obtain ⟨_, h4, hf⟩ := hf
  replace hf := bd_so hf
  obtain ⟨S5, h6, hf⟩ := hf
  refine g_putI (ci := 7) (k := 1) C g_us hW rfl (if_so h4).1.1 (if_so h4).1.2.1 (if_so h4).1.2.2 (by decide) f_RX7_19 rfl rfl rfl h6 dX7_renew_7 (fun H locs hW => ?_)
  refine lv_aload_n hx hb dX7_renew_10 rfl (lv_at hl 0 rfl) ?_
  replace hf := bd_so hf
  obtain ⟨_, h7, hf⟩ := hf
  refine g_get (ci := 7) (k := 2) (val := .ref (E.ad (a0 + 1))) C g_us hW rfl (if_so h7).1.1 (if_so h7).1.2.1 (if_so h7).1.2.2 (by decide) f_RX7_15 rfl dX7_renew_11 ?_
  refine lv_iconst (v := 0) hx hb dX7_renew_14 (by decide) ?_
  replace hf := bd_so hf
  obtain ⟨S9, h8, hf⟩ := hf
  refine g_callSv (As := [.ref (E.ad (a0 + 1)), .int 0]) (rest := []) C g_us hW hl.1 (c_J7_fill_53178 l E S5 (a0 + 1) 0 _ h8) k_RX7_22 rfl ⟨rfl, rfl⟩ ⟨Nat.le_of_ble_eq_true rfl, Nat.le_of_ble_eq_true rfl⟩ ⟨Nat.zero_le _, Nat.zero_le _⟩ _ rfl (Nat.le_of_ble_eq_true rfl) dX7_renew_15 (fun H locs hW => ?_)
  refine lv_iload_n hx hb dX7_renew_18 rfl (lv_at hl 2 rfl) ?_
  cases hf
  exact kR _ _ _ _ hW dX7_renew_19

abbrev rm_X7_empty : Room := { frames := 1, cells := 0, slots := 0, locals := 60 }
set_option maxHeartbeats 4000000 in
set_option maxRecDepth 100000 in
theorem c_X7_empty (l : Launch) (E : En) (S : St) (a0 : Nat) (r : Int32) (S1 : St) (hf : X7_empty S a0 = some (r, S1)) : Mi l E yX7_empty cX7_empty 1 (some .int) rm_X7_empty [.ref (E.ad a0)] S r S1 := by
  refine g_startI (cc := cX7_empty) (n := 1) (by decide) (Nat.le_of_ble_eq_true rfl) ?_
  intro p e s m args below meth c Q H locs C kR hW ls hl
  obtain ⟨⟨hx, hb, hml, hown, hts⟩, hK, hT⟩ := id C
  have hl : lv_has ls 1 [(0, .ref (E.ad a0))] := hl
  unfold X7_empty at hf
  refine lv_aload_n hx hb dX7_empty_0 rfl (lv_at hl 0 rfl) ?_
  refine lv_iconst (v := (-1)) hx hb dX7_empty_1 (by decide) ?_
  replace hf := bd_so hf
  obtain ⟨_, h1, hf⟩ := hf
  replace hf := bd_so hf
  obtain ⟨S2, h3, hf⟩ := hf
  refine g_putI (ci := 7) (k := 0) C g_us hW rfl (if_so h1).1.1 (if_so h1).1.2.1 (if_so h1).1.2.2 (by decide) f_RX7_9 rfl rfl rfl h3 dX7_empty_2 (fun H locs hW => ?_)
  refine lv_aload_n hx hb dX7_empty_5 rfl (lv_at hl 0 rfl) ?_
  replace hf := bd_so hf
  obtain ⟨_, h4, hf⟩ := hf
  refine g_get (ci := 7) (k := 1) (val := .int (rI S2 a0 1)) C g_us hW rfl (if_so h4).1.1 (if_so h4).1.2.1 (if_so h4).1.2.2 (by decide) f_RX7_19 rfl dX7_empty_6 ?_
  cases hf
  exact kR _ _ _ _ hW dX7_empty_9

abbrev rm_X7_put : Room := { frames := 1, cells := 0, slots := 0, locals := 60 }
set_option maxHeartbeats 4000000 in
set_option maxRecDepth 100000 in
theorem c_X7_put (l : Launch) (E : En) (S : St) (a0 : Nat) (a1 : Int32) (a2 : Int32) (r : Int32) (S1 : St) (hf : X7_put S a0 a1 a2 = some (r, S1)) : Mi l E yX7_put cX7_put 3 (some .int) rm_X7_put [.ref (E.ad a0), .int a1, .int a2] S r S1 := by
  refine g_startI (cc := cX7_put) (n := 3) (by decide) (Nat.le_of_ble_eq_true rfl) ?_
  intro p e s m args below meth c Q H locs C kR hW ls hl
  obtain ⟨⟨hx, hb, hml, hown, hts⟩, hK, hT⟩ := id C
  have hl : lv_has ls 3 [(0, .ref (E.ad a0)), (1, .int a1), (2, .int a2)] := hl
  unfold X7_put at hf
  refine lv_aload_n hx hb dX7_put_0 rfl (lv_at hl 0 rfl) ?_
  replace hf := bd_so hf
  obtain ⟨_, h1, hf⟩ := hf
  refine g_get (ci := 7) (k := 2) (val := .ref (E.ad (a0 + 1))) C g_us hW rfl (if_so h1).1.1 (if_so h1).1.2.1 (if_so h1).1.2.2 (by decide) f_RX7_15 rfl dX7_put_1 ?_
  refine lv_iload_n hx hb dX7_put_4 rfl (lv_at hl 1 rfl) ?_
  refine lv_aload_n hx hb dX7_put_5 rfl (lv_at hl 0 rfl) ?_
  replace hf := bd_so hf
  obtain ⟨_, h2, hf⟩ := hf
  refine g_get (ci := 7) (k := 0) (val := .int (rI S a0 0)) C g_us hW rfl (if_so h2).1.1 (if_so h2).1.2.1 (if_so h2).1.2.2 (by decide) f_RX7_9 rfl dX7_put_6 ?_
  replace hf := bd_so hf
  obtain ⟨x4, h5, hf⟩ := hf
  have J6 : ∀ (H : Heap) (locs : List Loc) (ls : Array Slot), Ww E S s H locs → lv_has ls 3 [] → W p l e rm_X7_put s m args below meth c H locs 0 0 Q (F0 m 31 ls [.int x4, .int a1, .ref (E.ad (a0 + 1))]) := by
    intro H locs ls hW hl
    replace hf := bd_so hf
    obtain ⟨S7, h8, hf⟩ := hf
    refine g_iast C hW h8 dX7_put_31 (fun H locs hW => ?_)
    refine lv_iconst (v := 1) hx hb dX7_put_32 (by decide) ?_
    cases hf
    exact kR _ _ _ _ hW dX7_put_33
  clear hf
  have hf := h5
  clear h5
  refine lv_if_ne (tgt := 17) hx hb dX7_put_9 (by decide) (fun c3 => ?_) (fun c3 => ?_)
  · replace hf := iff_ hf c3
    refine lv_aload_n hx hb dX7_put_17 rfl (lv_at hl 0 rfl) ?_
    replace hf := bd_so hf
    obtain ⟨_, h9, hf⟩ := hf
    refine g_get (ci := 7) (k := 0) (val := .int (rI S a0 0)) C g_us hW rfl (if_so h9).1.1 (if_so h9).1.2.1 (if_so h9).1.2.2 (by decide) f_RX7_9 rfl dX7_put_18 ?_
    refine lv_iconst (v := 1) hx hb dX7_put_21 (by decide) ?_
    refine lv_icmp_ne (tgt := 30) hx hb dX7_put_22 (by decide) (fun c10 => ?_) (fun c10 => ?_)
    · replace hf := iff_ hf c10
      refine lv_iload_n hx hb dX7_put_30 rfl (lv_at hl 2 rfl) ?_
      cases hf
      exact J6 _ _ _ hW (lv_sub hl [] rfl)
    · replace hf := ift_ hf c10
      refine lv_iload_n hx hb dX7_put_25 rfl (lv_at hl 2 rfl) ?_
      refine lv_i2s (v := (a2 : Int32).toInt16.toInt32) hx hb dX7_put_26 rfl ?_
      refine lv_goto (tgt := 31) hx hb dX7_put_27 (by decide) ?_
      cases hf
      exact J6 _ _ _ hW (lv_sub hl [] rfl)
  · replace hf := ift_ hf c3
    refine lv_iload_n hx hb dX7_put_12 rfl (lv_at hl 2 rfl) ?_
    refine lv_i2b (v := (a2 : Int32).toInt8.toInt32) hx hb dX7_put_13 rfl ?_
    refine lv_goto (tgt := 31) hx hb dX7_put_14 (by decide) ?_
    cases hf
    exact J6 _ _ _ hW (lv_sub hl [] rfl)
end
section
theorem i_vc : Claimed_1_1 ∧ Claimed_1_2 := sorry
end
