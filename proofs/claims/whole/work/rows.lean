section
-- ===== PART A: goes FIRST, ahead of the names: the tables' words, and 'selects' of the private methods out of them =====
/-- a private method of a class that the tables say can be made, by its rows of tables_1 -/
def lw_okq (q : MethodName × Nat) : Prop := (q.1.cls ≠ "java/lang/invoke/MethodHandle" ∧ q.1.cls ≠ "java/lang/invoke/VarHandle") ∧ Cond.instantiable q.1.cls q.2 ∈ tables_1 ∧ Cond.privateMethod q.1 ∈ tables_1 ∧ Cond.instanceMethod q.1 ∈ tables_1
theorem lw_p0 : lw_okq (⟨"ChoirWires$Beats", "timeAt", "(LChoirWires$Rooms;II)I"⟩, 5) := ⟨⟨by decide +kernel, by decide +kernel⟩, List.mem_of_getElem? (i := 160) (by decide +kernel), List.mem_of_getElem? (i := 358) (by decide +kernel), List.mem_of_getElem? (i := 359) (by decide +kernel)⟩
theorem lw_p1 : lw_okq (⟨"ChoirWires$Beats", "meanLag", "(II)I"⟩, 5) := ⟨⟨by decide +kernel, by decide +kernel⟩, List.mem_of_getElem? (i := 160) (by decide +kernel), List.mem_of_getElem? (i := 362) (by decide +kernel), List.mem_of_getElem? (i := 363) (by decide +kernel)⟩
theorem lw_p2 : lw_okq (⟨"ChoirWires$Ears", "lead", "(LChoirWires$Rooms;II)V"⟩, 1) := ⟨⟨by decide +kernel, by decide +kernel⟩, List.mem_of_getElem? (i := 182) (by decide +kernel), List.mem_of_getElem? (i := 462) (by decide +kernel), List.mem_of_getElem? (i := 463) (by decide +kernel)⟩
theorem lw_p3 : lw_okq (⟨"ChoirWires$Ears", "agrees", "(LChoirWires$Rooms;II)Z"⟩, 1) := ⟨⟨by decide +kernel, by decide +kernel⟩, List.mem_of_getElem? (i := 182) (by decide +kernel), List.mem_of_getElem? (i := 472) (by decide +kernel), List.mem_of_getElem? (i := 473) (by decide +kernel)⟩
theorem lw_p4 : lw_okq (⟨"ChoirWires$Tape", "peek", "()I"⟩, 4) := ⟨⟨by decide +kernel, by decide +kernel⟩, List.mem_of_getElem? (i := 116) (by decide +kernel), List.mem_of_getElem? (i := 499) (by decide +kernel), List.mem_of_getElem? (i := 500) (by decide +kernel)⟩
theorem lw_p5 : lw_okq (⟨"ChoirWires$Tape", "readSound", "(I)Z"⟩, 4) := ⟨⟨by decide +kernel, by decide +kernel⟩, List.mem_of_getElem? (i := 116) (by decide +kernel), List.mem_of_getElem? (i := 503) (by decide +kernel), List.mem_of_getElem? (i := 504) (by decide +kernel)⟩
theorem lw_p6 : lw_okq (⟨"ChoirWires$Words", "toldTo", "(LChoirWires$Rooms;II)I"⟩, 2) := ⟨⟨by decide +kernel, by decide +kernel⟩, List.mem_of_getElem? (i := 192) (by decide +kernel), List.mem_of_getElem? (i := 569) (by decide +kernel), List.mem_of_getElem? (i := 570) (by decide +kernel)⟩
theorem lw_p7 : lw_okq (⟨"ChoirWires$Nets", "gather", "(LChoirWires$Rooms;)V"⟩, 7) := ⟨⟨by decide +kernel, by decide +kernel⟩, List.mem_of_getElem? (i := 205) (by decide +kernel), List.mem_of_getElem? (i := 638) (by decide +kernel), List.mem_of_getElem? (i := 639) (by decide +kernel)⟩
theorem lw_p8 : lw_okq (⟨"ChoirWires$Nets", "decode", "(LChoirWires$Rooms;I)Z"⟩, 7) := ⟨⟨by decide +kernel, by decide +kernel⟩, List.mem_of_getElem? (i := 205) (by decide +kernel), List.mem_of_getElem? (i := 643) (by decide +kernel), List.mem_of_getElem? (i := 644) (by decide +kernel)⟩
theorem lw_p9 : lw_okq (⟨"ChoirWires$Nets", "takeLeaf", "()I"⟩, 7) := ⟨⟨by decide +kernel, by decide +kernel⟩, List.mem_of_getElem? (i := 205) (by decide +kernel), List.mem_of_getElem? (i := 650) (by decide +kernel), List.mem_of_getElem? (i := 651) (by decide +kernel)⟩
theorem lw_p10 : lw_okq (⟨"ChoirWires$Nets", "blinksOf", "(LChoirWires$Rooms;II)I"⟩, 7) := ⟨⟨by decide +kernel, by decide +kernel⟩, List.mem_of_getElem? (i := 205) (by decide +kernel), List.mem_of_getElem? (i := 654) (by decide +kernel), List.mem_of_getElem? (i := 655) (by decide +kernel)⟩
theorem lw_p11 : lw_okq (⟨"ChoirWires$Nets", "greatestWait", "(LChoirWires$Rooms;)I"⟩, 7) := ⟨⟨by decide +kernel, by decide +kernel⟩, List.mem_of_getElem? (i := 205) (by decide +kernel), List.mem_of_getElem? (i := 659) (by decide +kernel), List.mem_of_getElem? (i := 660) (by decide +kernel)⟩
theorem lw_p12 : lw_okq (⟨"ChoirWires$Nets", "join", "(LChoirWires$Rooms;III)I"⟩, 7) := ⟨⟨by decide +kernel, by decide +kernel⟩, List.mem_of_getElem? (i := 205) (by decide +kernel), List.mem_of_getElem? (i := 663) (by decide +kernel), List.mem_of_getElem? (i := 664) (by decide +kernel)⟩
theorem lw_p13 : lw_okq (⟨"ChoirWiresModel", "rooms", "()I"⟩, 22) := ⟨⟨by decide +kernel, by decide +kernel⟩, List.mem_of_getElem? (i := 721) (by decide +kernel), List.mem_of_getElem? (i := 803) (by decide +kernel), List.mem_of_getElem? (i := 804) (by decide +kernel)⟩
theorem lw_p14 : lw_okq (⟨"ChoirWiresModel", "isRoom", "(I)Z"⟩, 22) := ⟨⟨by decide +kernel, by decide +kernel⟩, List.mem_of_getElem? (i := 721) (by decide +kernel), List.mem_of_getElem? (i := 811) (by decide +kernel), List.mem_of_getElem? (i := 812) (by decide +kernel)⟩
theorem lw_p15 : lw_okq (⟨"ChoirWiresModel", "of", "(II)I"⟩, 22) := ⟨⟨by decide +kernel, by decide +kernel⟩, List.mem_of_getElem? (i := 721) (by decide +kernel), List.mem_of_getElem? (i := 818) (by decide +kernel), List.mem_of_getElem? (i := 819) (by decide +kernel)⟩
def lw_privs_1 : List (MethodName × Nat) := [(⟨"ChoirWires$Beats", "timeAt", "(LChoirWires$Rooms;II)I"⟩, 5), (⟨"ChoirWires$Beats", "meanLag", "(II)I"⟩, 5), (⟨"ChoirWires$Ears", "lead", "(LChoirWires$Rooms;II)V"⟩, 1), (⟨"ChoirWires$Ears", "agrees", "(LChoirWires$Rooms;II)Z"⟩, 1), (⟨"ChoirWires$Tape", "peek", "()I"⟩, 4), (⟨"ChoirWires$Tape", "readSound", "(I)Z"⟩, 4), (⟨"ChoirWires$Words", "toldTo", "(LChoirWires$Rooms;II)I"⟩, 2), (⟨"ChoirWires$Nets", "gather", "(LChoirWires$Rooms;)V"⟩, 7), (⟨"ChoirWires$Nets", "decode", "(LChoirWires$Rooms;I)Z"⟩, 7), (⟨"ChoirWires$Nets", "takeLeaf", "()I"⟩, 7), (⟨"ChoirWires$Nets", "blinksOf", "(LChoirWires$Rooms;II)I"⟩, 7), (⟨"ChoirWires$Nets", "greatestWait", "(LChoirWires$Rooms;)I"⟩, 7), (⟨"ChoirWires$Nets", "join", "(LChoirWires$Rooms;III)I"⟩, 7), (⟨"ChoirWiresModel", "rooms", "()I"⟩, 22), (⟨"ChoirWiresModel", "isRoom", "(I)Z"⟩, 22), (⟨"ChoirWiresModel", "of", "(II)I"⟩, 22)]
theorem lw_r1 : ∀ q ∈ lw_privs_1, lw_okq q := List.forall_mem_cons.mpr ⟨lw_p0, List.forall_mem_cons.mpr ⟨lw_p1, List.forall_mem_cons.mpr ⟨lw_p2, List.forall_mem_cons.mpr ⟨lw_p3, List.forall_mem_cons.mpr ⟨lw_p4, List.forall_mem_cons.mpr ⟨lw_p5, List.forall_mem_cons.mpr ⟨lw_p6, List.forall_mem_cons.mpr ⟨lw_p7, List.forall_mem_cons.mpr ⟨lw_p8, List.forall_mem_cons.mpr ⟨lw_p9, List.forall_mem_cons.mpr ⟨lw_p10, List.forall_mem_cons.mpr ⟨lw_p11, List.forall_mem_cons.mpr ⟨lw_p12, List.forall_mem_cons.mpr ⟨lw_p13, List.forall_mem_cons.mpr ⟨lw_p14, List.forall_mem_cons.mpr ⟨lw_p15, fun _ h => absurd h List.not_mem_nil⟩⟩⟩⟩⟩⟩⟩⟩⟩⟩⟩⟩⟩⟩⟩⟩
theorem lw_p16 : lw_okq (⟨"ChoirWiresModel", "wireOf", "(II)I"⟩, 22) := ⟨⟨by decide +kernel, by decide +kernel⟩, List.mem_of_getElem? (i := 721) (by decide +kernel), List.mem_of_getElem? (i := 827) (by decide +kernel), List.mem_of_getElem? (i := 828) (by decide +kernel)⟩
theorem lw_p17 : lw_okq (⟨"ChoirWiresModel", "finds", "(IIII)I"⟩, 22) := ⟨⟨by decide +kernel, by decide +kernel⟩, List.mem_of_getElem? (i := 721) (by decide +kernel), List.mem_of_getElem? (i := 843) (by decide +kernel), List.mem_of_getElem? (i := 844) (by decide +kernel)⟩
theorem lw_p18 : lw_okq (⟨"ChoirWiresModel", "sings", "(I)Z"⟩, 22) := ⟨⟨by decide +kernel, by decide +kernel⟩, List.mem_of_getElem? (i := 721) (by decide +kernel), List.mem_of_getElem? (i := 858) (by decide +kernel), List.mem_of_getElem? (i := 859) (by decide +kernel)⟩
theorem lw_p19 : lw_okq (⟨"ChoirWiresModel", "laysBeats", "(II)V"⟩, 22) := ⟨⟨by decide +kernel, by decide +kernel⟩, List.mem_of_getElem? (i := 721) (by decide +kernel), List.mem_of_getElem? (i := 863) (by decide +kernel), List.mem_of_getElem? (i := 864) (by decide +kernel)⟩
theorem lw_p20 : lw_okq (⟨"ChoirWiresModel", "pull", "(III)I"⟩, 22) := ⟨⟨by decide +kernel, by decide +kernel⟩, List.mem_of_getElem? (i := 721) (by decide +kernel), List.mem_of_getElem? (i := 867) (by decide +kernel), List.mem_of_getElem? (i := 868) (by decide +kernel)⟩
theorem lw_p21 : lw_okq (⟨"ChoirWiresModel", "singers", "()I"⟩, 22) := ⟨⟨by decide +kernel, by decide +kernel⟩, List.mem_of_getElem? (i := 721) (by decide +kernel), List.mem_of_getElem? (i := 875) (by decide +kernel), List.mem_of_getElem? (i := 876) (by decide +kernel)⟩
theorem lw_p22 : lw_okq (⟨"ChoirWiresModel", "paceBy", "(II)I"⟩, 22) := ⟨⟨by decide +kernel, by decide +kernel⟩, List.mem_of_getElem? (i := 721) (by decide +kernel), List.mem_of_getElem? (i := 879) (by decide +kernel), List.mem_of_getElem? (i := 880) (by decide +kernel)⟩
theorem lw_p23 : lw_okq (⟨"ChoirWiresModel", "isCut", "(I)Z"⟩, 22) := ⟨⟨by decide +kernel, by decide +kernel⟩, List.mem_of_getElem? (i := 721) (by decide +kernel), List.mem_of_getElem? (i := 903) (by decide +kernel), List.mem_of_getElem? (i := 904) (by decide +kernel)⟩
theorem lw_p24 : lw_okq (⟨"ChoirWiresModel", "bars", "(II)I"⟩, 22) := ⟨⟨by decide +kernel, by decide +kernel⟩, List.mem_of_getElem? (i := 721) (by decide +kernel), List.mem_of_getElem? (i := 912) (by decide +kernel), List.mem_of_getElem? (i := 913) (by decide +kernel)⟩
theorem lw_p25 : lw_okq (⟨"ChoirWiresModel", "reads", "(II)I"⟩, 22) := ⟨⟨by decide +kernel, by decide +kernel⟩, List.mem_of_getElem? (i := 721) (by decide +kernel), List.mem_of_getElem? (i := 927) (by decide +kernel), List.mem_of_getElem? (i := 928) (by decide +kernel)⟩
theorem lw_p26 : lw_okq (⟨"ChoirWiresModel", "next", "()I"⟩, 22) := ⟨⟨by decide +kernel, by decide +kernel⟩, List.mem_of_getElem? (i := 721) (by decide +kernel), List.mem_of_getElem? (i := 931) (by decide +kernel), List.mem_of_getElem? (i := 932) (by decide +kernel)⟩
theorem lw_p27 : lw_okq (⟨"ChoirWiresModel", "clashesAt", "(I)I"⟩, 22) := ⟨⟨by decide +kernel, by decide +kernel⟩, List.mem_of_getElem? (i := 721) (by decide +kernel), List.mem_of_getElem? (i := 952) (by decide +kernel), List.mem_of_getElem? (i := 953) (by decide +kernel)⟩
theorem lw_p28 : lw_okq (⟨"ChoirWiresModel", "tells", "(I)V"⟩, 22) := ⟨⟨by decide +kernel, by decide +kernel⟩, List.mem_of_getElem? (i := 721) (by decide +kernel), List.mem_of_getElem? (i := 975) (by decide +kernel), List.mem_of_getElem? (i := 976) (by decide +kernel)⟩
theorem lw_p29 : lw_okq (⟨"ChoirWiresModel", "lostBy", "(II)I"⟩, 22) := ⟨⟨by decide +kernel, by decide +kernel⟩, List.mem_of_getElem? (i := 721) (by decide +kernel), List.mem_of_getElem? (i := 993) (by decide +kernel), List.mem_of_getElem? (i := 994) (by decide +kernel)⟩
theorem lw_p30 : lw_okq (⟨"ChoirWiresModel", "parts", "(I)Z"⟩, 22) := ⟨⟨by decide +kernel, by decide +kernel⟩, List.mem_of_getElem? (i := 721) (by decide +kernel), List.mem_of_getElem? (i := 1014) (by decide +kernel), List.mem_of_getElem? (i := 1015) (by decide +kernel)⟩
theorem lw_p31 : lw_okq (⟨"ChoirWiresModel", "waitOf", "(I)I"⟩, 22) := ⟨⟨by decide +kernel, by decide +kernel⟩, List.mem_of_getElem? (i := 721) (by decide +kernel), List.mem_of_getElem? (i := 1018) (by decide +kernel), List.mem_of_getElem? (i := 1019) (by decide +kernel)⟩
def lw_privs_2 : List (MethodName × Nat) := [(⟨"ChoirWiresModel", "wireOf", "(II)I"⟩, 22), (⟨"ChoirWiresModel", "finds", "(IIII)I"⟩, 22), (⟨"ChoirWiresModel", "sings", "(I)Z"⟩, 22), (⟨"ChoirWiresModel", "laysBeats", "(II)V"⟩, 22), (⟨"ChoirWiresModel", "pull", "(III)I"⟩, 22), (⟨"ChoirWiresModel", "singers", "()I"⟩, 22), (⟨"ChoirWiresModel", "paceBy", "(II)I"⟩, 22), (⟨"ChoirWiresModel", "isCut", "(I)Z"⟩, 22), (⟨"ChoirWiresModel", "bars", "(II)I"⟩, 22), (⟨"ChoirWiresModel", "reads", "(II)I"⟩, 22), (⟨"ChoirWiresModel", "next", "()I"⟩, 22), (⟨"ChoirWiresModel", "clashesAt", "(I)I"⟩, 22), (⟨"ChoirWiresModel", "tells", "(I)V"⟩, 22), (⟨"ChoirWiresModel", "lostBy", "(II)I"⟩, 22), (⟨"ChoirWiresModel", "parts", "(I)Z"⟩, 22), (⟨"ChoirWiresModel", "waitOf", "(I)I"⟩, 22)]
theorem lw_r2 : ∀ q ∈ lw_privs_2, lw_okq q := List.forall_mem_cons.mpr ⟨lw_p16, List.forall_mem_cons.mpr ⟨lw_p17, List.forall_mem_cons.mpr ⟨lw_p18, List.forall_mem_cons.mpr ⟨lw_p19, List.forall_mem_cons.mpr ⟨lw_p20, List.forall_mem_cons.mpr ⟨lw_p21, List.forall_mem_cons.mpr ⟨lw_p22, List.forall_mem_cons.mpr ⟨lw_p23, List.forall_mem_cons.mpr ⟨lw_p24, List.forall_mem_cons.mpr ⟨lw_p25, List.forall_mem_cons.mpr ⟨lw_p26, List.forall_mem_cons.mpr ⟨lw_p27, List.forall_mem_cons.mpr ⟨lw_p28, List.forall_mem_cons.mpr ⟨lw_p29, List.forall_mem_cons.mpr ⟨lw_p30, List.forall_mem_cons.mpr ⟨lw_p31, fun _ h => absurd h List.not_mem_nil⟩⟩⟩⟩⟩⟩⟩⟩⟩⟩⟩⟩⟩⟩⟩⟩
def lw_privs : List (MethodName × Nat) := lw_privs_1 ++ (lw_privs_2)
def lw_tbl : List Cond := k2_sels lw_privs ++ tables_1
theorem lw_privs_ok : ∀ q ∈ lw_privs, lw_okq q := by
  show ∀ q ∈ lw_privs_1 ++ (lw_privs_2), lw_okq q
  exact List.forall_mem_append.mpr ⟨lw_r1, lw_r2⟩
end
section
/-! ===== BEGIN printed: names, fields, word lists, decode rows ===== -/
def RX0 : String := "ChoirWires$Beats"
def TX0 : u_T := fun k => match k with
  | 0 => ("ChoirWires$Beats", "times", "[I", false)
  | 1 => ("ChoirWires$Beats", "before", "[I", false)
  | 2 => ("ChoirWires$Beats", "heard", "[I", true)
  | 3 => ("ChoirWires$Beats", "heardBy", "[I", true)
  | _ => ("ChoirWires$Beats", "wireSums", "[I", true)
def tyX0 : Nat → FieldType := fun k => match k with
  | 0 => .array .int
  | 1 => .array .int
  | 2 => .array .int
  | 3 => .array .int
  | _ => .array .int
abbrev wsX00 : List Cond := u_ws RX0 TX0 5
theorem nmX0 : ∀ a, a < 5 → ∀ b, b < 5 → a ≠ b → (TX0 a).2.1 ≠ (TX0 b).2.1 := by decide +kernel
theorem tyX0_ok : ∀ k, k < 5 → parseFieldDescriptor (TX0 k).2.2.1 = some (tyX0 k) := by decide +kernel
abbrev cX0_init : ByteArray := prog_2_method_1_code
def yX0_init : MethodName := ⟨RX0, "<init>", "()V"⟩
abbrev cX0_listen : ByteArray := prog_2_method_2_code
def yX0_listen : MethodName := ⟨RX0, "listen", "(LChoirWires$Rooms;)V"⟩
abbrev cX0_stretchWires : ByteArray := prog_2_method_3_code
def yX0_stretchWires : MethodName := ⟨RX0, "stretchWires", "(LChoirWires$Rooms;I)V"⟩
abbrev cX0_singTo : ByteArray := prog_2_method_4_code
def yX0_singTo : MethodName := ⟨RX0, "singTo", "(LChoirWires$Rooms;I)V"⟩
abbrev cX0_timeAt : ByteArray := prog_2_method_5_code
def yX0_timeAt : MethodName := ⟨RX0, "timeAt", "(LChoirWires$Rooms;II)I"⟩
abbrev cX0_meanLag : ByteArray := prog_2_method_6_code
def yX0_meanLag : MethodName := ⟨RX0, "meanLag", "(II)I"⟩
abbrev cX0_timeOf : ByteArray := prog_2_method_7_code
def yX0_timeOf : MethodName := ⟨RX0, "timeOf", "(I)I"⟩
abbrev cX0_meanPace : ByteArray := prog_2_method_8_code
def yX0_meanPace : MethodName := ⟨RX0, "meanPace", "(LChoirWires$Rooms;)I"⟩
abbrev cX0_spread : ByteArray := prog_2_method_9_code
def yX0_spread : MethodName := ⟨RX0, "spread", "(LChoirWires$Rooms;)I"⟩
def RX1 : String := "ChoirWires$Choir"
def TX1 : u_T := fun k => match k with
  | 0 => ("ChoirWires$Choir", "rooms", "LChoirWires$Rooms;", true)
  | 1 => ("ChoirWires$Choir", "text", "LChoirWires$Piece;", true)
  | 2 => ("ChoirWires$Choir", "losses", "LChoirWires$Losses;", true)
  | _ => ("ChoirWires$Choir", "fitting", "I", false)
def tyX1 : Nat → FieldType := fun k => match k with
  | 0 => .object "ChoirWires$Rooms"
  | 1 => .object "ChoirWires$Piece"
  | 2 => .object "ChoirWires$Losses"
  | _ => .int
abbrev wsX10 : List Cond := u_ws RX1 TX1 4
theorem nmX1 : ∀ a, a < 4 → ∀ b, b < 4 → a ≠ b → (TX1 a).2.1 ≠ (TX1 b).2.1 := by decide +kernel
theorem tyX1_ok : ∀ k, k < 4 → parseFieldDescriptor (TX1 k).2.2.1 = some (tyX1 k) := by decide +kernel
abbrev cX1_init : ByteArray := prog_3_method_1_code
def yX1_init : MethodName := ⟨RX1, "<init>", "()V"⟩
abbrev cX1_take : ByteArray := prog_3_method_2_code
def yX1_take : MethodName := ⟨RX1, "take", "(LChoirWires$Choir;)V"⟩
def RX2 : String := "ChoirWires$Ears"
def TX2 : u_T := fun k => match k with
  | _ => ("ChoirWires$Ears", "leads", "[I", true)
def tyX2 : Nat → FieldType := fun k => match k with
  | _ => .array .int
abbrev wsX20 : List Cond := u_ws RX2 TX2 1
theorem nmX2 : ∀ a, a < 1 → ∀ b, b < 1 → a ≠ b → (TX2 a).2.1 ≠ (TX2 b).2.1 := by decide +kernel
theorem tyX2_ok : ∀ k, k < 1 → parseFieldDescriptor (TX2 k).2.2.1 = some (tyX2 k) := by decide +kernel
abbrev cX2_init : ByteArray := prog_4_method_1_code
def yX2_init : MethodName := ⟨RX2, "<init>", "()V"⟩
abbrev cX2_firstFailing : ByteArray := prog_4_method_2_code
def yX2_firstFailing : MethodName := ⟨RX2, "firstFailing", "(LChoirWires$Rooms;I)I"⟩
abbrev cX2_lead : ByteArray := prog_4_method_3_code
def yX2_lead : MethodName := ⟨RX2, "lead", "(LChoirWires$Rooms;II)V"⟩
abbrev cX2_agrees : ByteArray := prog_4_method_4_code
def yX2_agrees : MethodName := ⟨RX2, "agrees", "(LChoirWires$Rooms;II)Z"⟩
abbrev cX2_leadOf : ByteArray := prog_4_method_5_code
def yX2_leadOf : MethodName := ⟨RX2, "leadOf", "(I)I"⟩
def RX3 : String := "ChoirWires$Losses"
def TX3 : u_T := fun k => match k with
  | 0 => ("ChoirWires$Losses", "number", "I", false)
  | _ => ("ChoirWires$Losses", "rows", "[J", true)
def tyX3 : Nat → FieldType := fun k => match k with
  | 0 => .int
  | _ => .array .long
abbrev wsX30 : List Cond := u_ws RX3 TX3 2
theorem nmX3 : ∀ a, a < 2 → ∀ b, b < 2 → a ≠ b → (TX3 a).2.1 ≠ (TX3 b).2.1 := by decide +kernel
theorem tyX3_ok : ∀ k, k < 2 → parseFieldDescriptor (TX3 k).2.2.1 = some (tyX3 k) := by decide +kernel
abbrev cX3_init : ByteArray := prog_5_method_1_code
def yX3_init : MethodName := ⟨RX3, "<init>", "()V"⟩
abbrev cX3_take : ByteArray := prog_5_method_2_code
def yX3_take : MethodName := ⟨RX3, "take", "(LChoirWires$Losses;)V"⟩
abbrev cX3_add : ByteArray := prog_5_method_3_code
def yX3_add : MethodName := ⟨RX3, "add", "(J)I"⟩
abbrev cX3_lostOf : ByteArray := prog_5_method_4_code
def yX3_lostOf : MethodName := ⟨RX3, "lostOf", "(II)I"⟩
abbrev cX3_losesNothing : ByteArray := prog_5_method_5_code
def yX3_losesNothing : MethodName := ⟨RX3, "losesNothing", "(I)Z"⟩
def RX4 : String := "ChoirWires$Nets"
def TX4 : u_T := fun k => match k with
  | 0 => ("ChoirWires$Nets", "size", "I", false)
  | 1 => ("ChoirWires$Nets", "members", "[I", true)
  | 2 => ("ChoirWires$Nets", "code", "[I", true)
  | 3 => ("ChoirWires$Nets", "pairs", "[I", true)
  | 4 => ("ChoirWires$Nets", "leaves", "[I", true)
  | 5 => ("ChoirWires$Nets", "parents", "[I", true)
  | _ => ("ChoirWires$Nets", "ways", "[I", true)
def tyX4 : Nat → FieldType := fun k => match k with
  | 0 => .int
  | 1 => .array .int
  | 2 => .array .int
  | 3 => .array .int
  | 4 => .array .int
  | 5 => .array .int
  | _ => .array .int
abbrev wsX40 : List Cond := u_ws RX4 TX4 7
theorem nmX4 : ∀ a, a < 7 → ∀ b, b < 7 → a ≠ b → (TX4 a).2.1 ≠ (TX4 b).2.1 := by decide +kernel
theorem tyX4_ok : ∀ k, k < 7 → parseFieldDescriptor (TX4 k).2.2.1 = some (tyX4 k) := by decide +kernel
abbrev cX4_init : ByteArray := prog_6_method_1_code
def yX4_init : MethodName := ⟨RX4, "<init>", "()V"⟩
abbrev cX4_leastWait : ByteArray := prog_6_method_2_code
def yX4_leastWait : MethodName := ⟨RX4, "leastWait", "(LChoirWires$Rooms;)I"⟩
abbrev cX4_gather : ByteArray := prog_6_method_3_code
def yX4_gather : MethodName := ⟨RX4, "gather", "(LChoirWires$Rooms;)V"⟩
abbrev cX4_decode : ByteArray := prog_6_method_4_code
def yX4_decode : MethodName := ⟨RX4, "decode", "(LChoirWires$Rooms;I)Z"⟩
abbrev cX4_takeLeaf : ByteArray := prog_6_method_5_code
def yX4_takeLeaf : MethodName := ⟨RX4, "takeLeaf", "()I"⟩
abbrev cX4_blinksOf : ByteArray := prog_6_method_6_code
def yX4_blinksOf : MethodName := ⟨RX4, "blinksOf", "(LChoirWires$Rooms;II)I"⟩
abbrev cX4_greatestWait : ByteArray := prog_6_method_7_code
def yX4_greatestWait : MethodName := ⟨RX4, "greatestWait", "(LChoirWires$Rooms;)I"⟩
abbrev cX4_join : ByteArray := prog_6_method_8_code
def yX4_join : MethodName := ⟨RX4, "join", "(LChoirWires$Rooms;III)I"⟩
def RX5 : String := "ChoirWires$Piece"
def TX5 : u_T := fun k => match k with
  | 0 => ("ChoirWires$Piece", "length", "I", false)
  | _ => ("ChoirWires$Piece", "sounds", "[I", true)
def tyX5 : Nat → FieldType := fun k => match k with
  | 0 => .int
  | _ => .array .int
abbrev wsX50 : List Cond := u_ws RX5 TX5 2
theorem nmX5 : ∀ a, a < 2 → ∀ b, b < 2 → a ≠ b → (TX5 a).2.1 ≠ (TX5 b).2.1 := by decide +kernel
theorem tyX5_ok : ∀ k, k < 2 → parseFieldDescriptor (TX5 k).2.2.1 = some (tyX5 k) := by decide +kernel
abbrev cX5_init : ByteArray := prog_7_method_1_code
def yX5_init : MethodName := ⟨RX5, "<init>", "()V"⟩
abbrev cX5_take : ByteArray := prog_7_method_2_code
def yX5_take : MethodName := ⟨RX5, "take", "(LChoirWires$Piece;)V"⟩
abbrev cX5_append : ByteArray := prog_7_method_3_code
def yX5_append : MethodName := ⟨RX5, "append", "(IIZ)V"⟩
abbrev cX5_breaths : ByteArray := prog_7_method_4_code
def yX5_breaths : MethodName := ⟨RX5, "breaths", "()I"⟩
abbrev cX5_behindLastBreath : ByteArray := prog_7_method_5_code
def yX5_behindLastBreath : MethodName := ⟨RX5, "behindLastBreath", "(I)I"⟩
abbrev cX5_clashesAt : ByteArray := prog_7_method_6_code
def yX5_clashesAt : MethodName := ⟨RX5, "clashesAt", "(II)I"⟩
def RX6 : String := "ChoirWires$Rooms"
def TX6 : u_T := fun k => match k with
  | 0 => ("ChoirWires$Rooms", "number", "I", false)
  | 1 => ("ChoirWires$Rooms", "blinksOfBeat", "I", false)
  | 2 => ("ChoirWires$Rooms", "mostPairs", "I", false)
  | 3 => ("ChoirWires$Rooms", "values", "[I", true)
  | 4 => ("ChoirWires$Rooms", "blinks", "[I", true)
  | _ => ("ChoirWires$Rooms", "lostWords", "[I", true)
def tyX6 : Nat → FieldType := fun k => match k with
  | 0 => .int
  | 1 => .int
  | 2 => .int
  | 3 => .array .int
  | 4 => .array .int
  | _ => .array .int
abbrev wsX60 : List Cond := u_ws RX6 TX6 6
theorem nmX6 : ∀ a, a < 6 → ∀ b, b < 6 → a ≠ b → (TX6 a).2.1 ≠ (TX6 b).2.1 := by decide +kernel
theorem tyX6_ok : ∀ k, k < 6 → parseFieldDescriptor (TX6 k).2.2.1 = some (tyX6 k) := by decide +kernel
abbrev cX6_init : ByteArray := prog_8_method_1_code
def yX6_init : MethodName := ⟨RX6, "<init>", "()V"⟩
abbrev cX6_take : ByteArray := prog_8_method_2_code
def yX6_take : MethodName := ⟨RX6, "take", "(LChoirWires$Rooms;)V"⟩
abbrev cX6_add : ByteArray := prog_8_method_3_code
def yX6_add : MethodName := ⟨RX6, "add", "(I)I"⟩
abbrev cX6_has : ByteArray := prog_8_method_4_code
def yX6_has : MethodName := ⟨RX6, "has", "(I)Z"⟩
abbrev cX6_hasTwo : ByteArray := prog_8_method_5_code
def yX6_hasTwo : MethodName := ⟨RX6, "hasTwo", "(II)Z"⟩
abbrev cX6_value : ByteArray := prog_8_method_6_code
def yX6_value : MethodName := ⟨RX6, "value", "(II)I"⟩
abbrev cX6_change : ByteArray := prog_8_method_7_code
def yX6_change : MethodName := ⟨RX6, "change", "(III)I"⟩
abbrev cX6_sings : ByteArray := prog_8_method_8_code
def yX6_sings : MethodName := ⟨RX6, "sings", "(I)Z"⟩
abbrev cX6_isCut : ByteArray := prog_8_method_9_code
def yX6_isCut : MethodName := ⟨RX6, "isCut", "(I)Z"⟩
abbrev cX6_all : ByteArray := prog_8_method_10_code
def yX6_all : MethodName := ⟨RX6, "all", "()I"⟩
abbrev cX6_singers : ByteArray := prog_8_method_11_code
def yX6_singers : MethodName := ⟨RX6, "singers", "()I"⟩
abbrev cX6_uncut : ByteArray := prog_8_method_12_code
def yX6_uncut : MethodName := ⟨RX6, "uncut", "()I"⟩
abbrev cX6_between : ByteArray := prog_8_method_13_code
def yX6_between : MethodName := ⟨RX6, "between", "(II)I"⟩
abbrev cX6_lay : ByteArray := prog_8_method_14_code
def yX6_lay : MethodName := ⟨RX6, "lay", "(III)I"⟩
abbrev cX6_canLayAll : ByteArray := prog_8_method_15_code
def yX6_canLayAll : MethodName := ⟨RX6, "canLayAll", "(ILChoirWires$Sheet;I)Z"⟩
abbrev cX6_layAll : ByteArray := prog_8_method_16_code
def yX6_layAll : MethodName := ⟨RX6, "layAll", "(ILChoirWires$Sheet;I)I"⟩
abbrev cX6_wiresInAll : ByteArray := prog_8_method_17_code
def yX6_wiresInAll : MethodName := ⟨RX6, "wiresInAll", "()I"⟩
abbrev cX6_reachedByAll : ByteArray := prog_8_method_18_code
def yX6_reachedByAll : MethodName := ⟨RX6, "reachedByAll", "(II)Z"⟩
abbrev cX6_longestWire : ByteArray := prog_8_method_19_code
def yX6_longestWire : MethodName := ⟨RX6, "longestWire", "(II)I"⟩
abbrev cX6_shortestWire : ByteArray := prog_8_method_20_code
def yX6_shortestWire : MethodName := ⟨RX6, "shortestWire", "(II)I"⟩
abbrev cX6_costOfHolding : ByteArray := prog_8_method_21_code
def yX6_costOfHolding : MethodName := ⟨RX6, "costOfHolding", "(III)I"⟩
abbrev cX6_leastBeat : ByteArray := prog_8_method_22_code
def yX6_leastBeat : MethodName := ⟨RX6, "leastBeat", "(I)I"⟩
abbrev cX6_losesWord : ByteArray := prog_8_method_23_code
def yX6_losesWord : MethodName := ⟨RX6, "losesWord", "(III)Z"⟩
abbrev cX6_loseWord : ByteArray := prog_8_method_24_code
def yX6_loseWord : MethodName := ⟨RX6, "loseWord", "(IIIZ)I"⟩
def RX7 : String := "ChoirWires$Sheet"
def TX7 : u_T := fun k => match k with
  | 0 => ("ChoirWires$Sheet", "lane", "I", false)
  | 1 => ("ChoirWires$Sheet", "length", "I", false)
  | _ => ("ChoirWires$Sheet", "items", "[I", true)
def tyX7 : Nat → FieldType := fun k => match k with
  | 0 => .int
  | 1 => .int
  | _ => .array .int
abbrev wsX70 : List Cond := u_ws RX7 TX7 3
theorem nmX7 : ∀ a, a < 3 → ∀ b, b < 3 → a ≠ b → (TX7 a).2.1 ≠ (TX7 b).2.1 := by decide +kernel
theorem tyX7_ok : ∀ k, k < 3 → parseFieldDescriptor (TX7 k).2.2.1 = some (tyX7 k) := by decide +kernel
abbrev cX7_init : ByteArray := prog_9_method_1_code
def yX7_init : MethodName := ⟨RX7, "<init>", "()V"⟩
abbrev cX7_refusal : ByteArray := prog_9_method_2_code
def yX7_refusal : MethodName := ⟨RX7, "refusal", "(I)I"⟩
abbrev cX7_holds : ByteArray := prog_9_method_3_code
def yX7_holds : MethodName := ⟨RX7, "holds", "(II)Z"⟩
abbrev cX7_renew : ByteArray := prog_9_method_4_code
def yX7_renew : MethodName := ⟨RX7, "renew", "(II)I"⟩
abbrev cX7_empty : ByteArray := prog_9_method_5_code
def yX7_empty : MethodName := ⟨RX7, "empty", "()I"⟩
abbrev cX7_put : ByteArray := prog_9_method_6_code
def yX7_put : MethodName := ⟨RX7, "put", "(II)I"⟩
def RX8 : String := "ChoirWires$Tape"
def TX8 : u_T := fun k => match k with
  | 0 => ("ChoirWires$Tape", "length", "I", false)
  | 1 => ("ChoirWires$Tape", "draft", "LChoirWires$Piece;", true)
  | 2 => ("ChoirWires$Tape", "bytes", "[B", true)
  | _ => ("ChoirWires$Tape", "place", "I", false)
def tyX8 : Nat → FieldType := fun k => match k with
  | 0 => .int
  | 1 => .object "ChoirWires$Piece"
  | 2 => .array .byte
  | _ => .int
abbrev wsX80 : List Cond := u_ws RX8 TX8 4
theorem nmX8 : ∀ a, a < 4 → ∀ b, b < 4 → a ≠ b → (TX8 a).2.1 ≠ (TX8 b).2.1 := by decide +kernel
theorem tyX8_ok : ∀ k, k < 4 → parseFieldDescriptor (TX8 k).2.2.1 = some (tyX8 k) := by decide +kernel
abbrev cX8_init : ByteArray := prog_10_method_1_code
def yX8_init : MethodName := ⟨RX8, "<init>", "()V"⟩
abbrev cX8_canStand : ByteArray := prog_10_method_2_code
def yX8_canStand : MethodName := ⟨RX8, "canStand", "(JI)Z"⟩
abbrev cX8_append : ByteArray := prog_10_method_3_code
def yX8_append : MethodName := ⟨RX8, "append", "(JI)I"⟩
abbrev cX8_read : ByteArray := prog_10_method_4_code
def yX8_read : MethodName := ⟨RX8, "read", "()I"⟩
abbrev cX8_readSound : ByteArray := prog_10_method_5_code
def yX8_readSound : MethodName := ⟨RX8, "readSound", "(I)Z"⟩
abbrev cX8_peek : ByteArray := prog_10_method_6_code
def yX8_peek : MethodName := ⟨RX8, "peek", "()I"⟩
def RX9 : String := "ChoirWires$Words"
def TX9 : u_T := fun k => match k with
  | 0 => ("ChoirWires$Words", "known", "[I", false)
  | _ => ("ChoirWires$Words", "before", "[I", false)
def tyX9 : Nat → FieldType := fun k => match k with
  | 0 => .array .int
  | _ => .array .int
abbrev wsX90 : List Cond := u_ws RX9 TX9 2
theorem nmX9 : ∀ a, a < 2 → ∀ b, b < 2 → a ≠ b → (TX9 a).2.1 ≠ (TX9 b).2.1 := by decide +kernel
theorem tyX9_ok : ∀ k, k < 2 → parseFieldDescriptor (TX9 k).2.2.1 = some (tyX9 k) := by decide +kernel
abbrev cX9_init : ByteArray := prog_11_method_1_code
def yX9_init : MethodName := ⟨RX9, "<init>", "()V"⟩
abbrev cX9_tellFor : ByteArray := prog_11_method_2_code
def yX9_tellFor : MethodName := ⟨RX9, "tellFor", "(LChoirWires$Rooms;I)V"⟩
abbrev cX9_toldTo : ByteArray := prog_11_method_3_code
def yX9_toldTo : MethodName := ⟨RX9, "toldTo", "(LChoirWires$Rooms;II)I"⟩
abbrev cX9_knownTo : ByteArray := prog_11_method_4_code
def yX9_knownTo : MethodName := ⟨RX9, "knownTo", "(I)I"⟩
def RX10 : String := "ChoirWires"
def TX10 : u_T := fun k => match k with
  | 0 => ("ChoirWires", "now", "LChoirWires$Choir;", true)
  | 1 => ("ChoirWires", "images", "[LChoirWires$Choir;", true)
  | 2 => ("ChoirWires", "tape", "LChoirWires$Tape;", true)
  | 3 => ("ChoirWires", "sheets", "[LChoirWires$Sheet;", true)
  | 4 => ("ChoirWires", "beats", "LChoirWires$Beats;", true)
  | 5 => ("ChoirWires", "listeners", "LChoirWires$Ears;", true)
  | 6 => ("ChoirWires", "words", "LChoirWires$Words;", true)
  | _ => ("ChoirWires", "nets", "LChoirWires$Nets;", true)
def tyX10 : Nat → FieldType := fun k => match k with
  | 0 => .object "ChoirWires$Choir"
  | 1 => .array (.object "ChoirWires$Choir")
  | 2 => .object "ChoirWires$Tape"
  | 3 => .array (.object "ChoirWires$Sheet")
  | 4 => .object "ChoirWires$Beats"
  | 5 => .object "ChoirWires$Ears"
  | 6 => .object "ChoirWires$Words"
  | _ => .object "ChoirWires$Nets"
abbrev wsX100 : List Cond := u_ws RX10 TX10 8
theorem nmX10 : ∀ a, a < 8 → ∀ b, b < 8 → a ≠ b → (TX10 a).2.1 ≠ (TX10 b).2.1 := by decide +kernel
theorem tyX10_ok : ∀ k, k < 8 → parseFieldDescriptor (TX10 k).2.2.1 = some (tyX10 k) := by decide +kernel
abbrev cX10_init : ByteArray := prog_1_method_1_code
def yX10_init : MethodName := ⟨RX10, "<init>", "()V"⟩
abbrev cX10_room : ByteArray := prog_1_method_2_code
def yX10_room : MethodName := ⟨RX10, "room", "(I)I"⟩
abbrev cX10_set : ByteArray := prog_1_method_3_code
def yX10_set : MethodName := ⟨RX10, "set", "(III)I"⟩
abbrev cX10_wire : ByteArray := prog_1_method_4_code
def yX10_wire : MethodName := ⟨RX10, "wire", "(III)I"⟩
abbrev cX10_wires : ByteArray := prog_1_method_5_code
def yX10_wires : MethodName := ⟨RX10, "wires", "(IIII)I"⟩
abbrev cX10_pace : ByteArray := prog_1_method_6_code
def yX10_pace : MethodName := ⟨RX10, "pace", "(I)I"⟩
abbrev cX10_time : ByteArray := prog_1_method_7_code
def yX10_time : MethodName := ⟨RX10, "time", "(II)I"⟩
abbrev cX10_paceAt : ByteArray := prog_1_method_8_code
def yX10_paceAt : MethodName := ⟨RX10, "paceAt", "(I)I"⟩
abbrev cX10_slows : ByteArray := prog_1_method_9_code
def yX10_slows : MethodName := ⟨RX10, "slows", "(II)I"⟩
abbrev cX10_apart : ByteArray := prog_1_method_10_code
def yX10_apart : MethodName := ⟨RX10, "apart", "(I)I"⟩
abbrev cX10_count : ByteArray := prog_1_method_11_code
def yX10_count : MethodName := ⟨RX10, "count", "(I)I"⟩
abbrev cX10_hold : ByteArray := prog_1_method_12_code
def yX10_hold : MethodName := ⟨RX10, "hold", "(II)I"⟩
abbrev cX10_together : ByteArray := prog_1_method_13_code
def yX10_together : MethodName := ⟨RX10, "together", "(II)I"⟩
abbrev cX10_type : ByteArray := prog_1_method_14_code
def yX10_type : MethodName := ⟨RX10, "type", "(JI)I"⟩
abbrev cX10_piece : ByteArray := prog_1_method_15_code
def yX10_piece : MethodName := ⟨RX10, "piece", "()I"⟩
abbrev cX10_sound : ByteArray := prog_1_method_16_code
def yX10_sound : MethodName := ⟨RX10, "sound", "(I)I"⟩
abbrev cX10_fit : ByteArray := prog_1_method_17_code
def yX10_fit : MethodName := ⟨RX10, "fit", "(I)I"⟩
abbrev cX10_clashes : ByteArray := prog_1_method_18_code
def yX10_clashes : MethodName := ⟨RX10, "clashes", "(I)I"⟩
abbrev cX10_canon : ByteArray := prog_1_method_19_code
def yX10_canon : MethodName := ⟨RX10, "canon", "(I)I"⟩
abbrev cX10_sea : ByteArray := prog_1_method_20_code
def yX10_sea : MethodName := ⟨RX10, "sea", "(II)I"⟩
abbrev cX10_lose : ByteArray := prog_1_method_21_code
def yX10_lose : MethodName := ⟨RX10, "lose", "(IIIZ)I"⟩
abbrev cX10_goes : ByteArray := prog_1_method_22_code
def yX10_goes : MethodName := ⟨RX10, "goes", "(II)I"⟩
abbrev cX10_knows : ByteArray := prog_1_method_23_code
def yX10_knows : MethodName := ⟨RX10, "knows", "(II)I"⟩
abbrev cX10_loss : ByteArray := prog_1_method_24_code
def yX10_loss : MethodName := ⟨RX10, "loss", "(J)I"⟩
abbrev cX10_lost : ByteArray := prog_1_method_25_code
def yX10_lost : MethodName := ⟨RX10, "lost", "(II)I"⟩
abbrev cX10_group : ByteArray := prog_1_method_26_code
def yX10_group : MethodName := ⟨RX10, "group", "()I"⟩
abbrev cX10_clear : ByteArray := prog_1_method_27_code
def yX10_clear : MethodName := ⟨RX10, "clear", "()I"⟩
abbrev cX10_most : ByteArray := prog_1_method_28_code
def yX10_most : MethodName := ⟨RX10, "most", "(I)I"⟩
abbrev cX10_net : ByteArray := prog_1_method_29_code
def yX10_net : MethodName := ⟨RX10, "net", "()I"⟩
abbrev cX10_image : ByteArray := prog_1_method_30_code
def yX10_image : MethodName := ⟨RX10, "image", "(I)I"⟩
abbrev cX10_restore : ByteArray := prog_1_method_31_code
def yX10_restore : MethodName := ⟨RX10, "restore", "(I)I"⟩
abbrev cX10_sheet : ByteArray := prog_1_method_32_code
def yX10_sheet : MethodName := ⟨RX10, "sheet", "(III)I"⟩
abbrev cX10_drop : ByteArray := prog_1_method_33_code
def yX10_drop : MethodName := ⟨RX10, "drop", "(I)I"⟩
abbrev cX10_item : ByteArray := prog_1_method_34_code
def yX10_item : MethodName := ⟨RX10, "item", "(IIII)I"⟩
abbrev cX10_copy : ByteArray := prog_1_method_35_code
def yX10_copy : MethodName := ⟨RX10, "copy", "(IIIII)I"⟩
abbrev cX10_isSheet : ByteArray := prog_1_method_36_code
def yX10_isSheet : MethodName := ⟨RX10, "isSheet", "(I)Z"⟩
abbrev cX10_isLane : ByteArray := prog_1_method_37_code
def yX10_isLane : MethodName := ⟨RX10, "isLane", "(I)Z"⟩
def RX11 : String := "ChoirWiresModel"
def TX11 : u_T := fun k => match k with
  | 0 => ("ChoirWiresModel", "row", "[I", true)
  | 1 => ("ChoirWiresModel", "losses", "[J", true)
  | 2 => ("ChoirWiresModel", "times", "[I", true)
  | 3 => ("ChoirWiresModel", "aheads", "[I", true)
  | 4 => ("ChoirWiresModel", "tape", "[I", true)
  | 5 => ("ChoirWiresModel", "taped", "I", false)
  | 6 => ("ChoirWiresModel", "at", "I", false)
  | 7 => ("ChoirWiresModel", "read", "[I", true)
  | 8 => ("ChoirWiresModel", "known", "[I", true)
  | 9 => ("ChoirWiresModel", "knownThen", "[I", true)
  | 10 => ("ChoirWiresModel", "here", "[I", true)
  | 11 => ("ChoirWiresModel", "code", "[I", true)
  | 12 => ("ChoirWiresModel", "left", "[I", true)
  | 13 => ("ChoirWiresModel", "ends", "[I", true)
  | 14 => ("ChoirWiresModel", "along", "[I", true)
  | 15 => ("ChoirWiresModel", "images", "[I", true)
  | 16 => ("ChoirWiresModel", "imageLosses", "[J", true)
  | 17 => ("ChoirWiresModel", "isKept", "[Z", true)
  | 18 => ("ChoirWiresModel", "lanes", "[I", true)
  | 19 => ("ChoirWiresModel", "sizes", "[I", true)
  | 20 => ("ChoirWiresModel", "items", "[I", true)
  | _ => ("ChoirWiresModel", "moved", "[I", true)
def tyX11 : Nat → FieldType := fun k => match k with
  | 0 => .array .int
  | 1 => .array .long
  | 2 => .array .int
  | 3 => .array .int
  | 4 => .array .int
  | 5 => .int
  | 6 => .int
  | 7 => .array .int
  | 8 => .array .int
  | 9 => .array .int
  | 10 => .array .int
  | 11 => .array .int
  | 12 => .array .int
  | 13 => .array .int
  | 14 => .array .int
  | 15 => .array .int
  | 16 => .array .long
  | 17 => .array .boolean
  | 18 => .array .int
  | 19 => .array .int
  | 20 => .array .int
  | _ => .array .int
abbrev wsX110 : List Cond := u_ws RX11 TX11 22
theorem nmX11 : ∀ a, a < 22 → ∀ b, b < 22 → a ≠ b → (TX11 a).2.1 ≠ (TX11 b).2.1 := by decide +kernel
theorem tyX11_ok : ∀ k, k < 22 → parseFieldDescriptor (TX11 k).2.2.1 = some (tyX11 k) := by decide +kernel
abbrev cX11_in : ByteArray := prog_13_method_2_code
def yX11_in : MethodName := ⟨RX11, "in", "(JJJ)Z"⟩
abbrev cX11_init : ByteArray := prog_13_method_3_code
def yX11_init : MethodName := ⟨RX11, "<init>", "()V"⟩
abbrev cX11_rooms : ByteArray := prog_13_method_4_code
def yX11_rooms : MethodName := ⟨RX11, "rooms", "()I"⟩
abbrev cX11_isRoom : ByteArray := prog_13_method_5_code
def yX11_isRoom : MethodName := ⟨RX11, "isRoom", "(I)Z"⟩
abbrev cX11_of : ByteArray := prog_13_method_6_code
def yX11_of : MethodName := ⟨RX11, "of", "(II)I"⟩
abbrev cX11_wireOf : ByteArray := prog_13_method_7_code
def yX11_wireOf : MethodName := ⟨RX11, "wireOf", "(II)I"⟩
abbrev cX11_sings : ByteArray := prog_13_method_8_code
def yX11_sings : MethodName := ⟨RX11, "sings", "(I)Z"⟩
abbrev cX11_isCut : ByteArray := prog_13_method_9_code
def yX11_isCut : MethodName := ⟨RX11, "isCut", "(I)Z"⟩
abbrev cX11_highest : ByteArray := prog_13_method_10_code
def yX11_highest : MethodName := ⟨RX11, "highest", "(I)I"⟩
abbrev cX11_room : ByteArray := prog_13_method_11_code
def yX11_room : MethodName := ⟨RX11, "room", "(I)I"⟩
abbrev cX11_set : ByteArray := prog_13_method_12_code
def yX11_set : MethodName := ⟨RX11, "set", "(III)I"⟩
abbrev cX11_wire : ByteArray := prog_13_method_13_code
def yX11_wire : MethodName := ⟨RX11, "wire", "(III)I"⟩
abbrev cX11_wires : ByteArray := prog_13_method_14_code
def yX11_wires : MethodName := ⟨RX11, "wires", "(IIII)I"⟩
abbrev cX11_pace : ByteArray := prog_13_method_15_code
def yX11_pace : MethodName := ⟨RX11, "pace", "(I)I"⟩
abbrev cX11_pull : ByteArray := prog_13_method_16_code
def yX11_pull : MethodName := ⟨RX11, "pull", "(III)I"⟩
abbrev cX11_laysBeats : ByteArray := prog_13_method_17_code
def yX11_laysBeats : MethodName := ⟨RX11, "laysBeats", "(II)V"⟩
abbrev cX11_time : ByteArray := prog_13_method_18_code
def yX11_time : MethodName := ⟨RX11, "time", "(II)I"⟩
abbrev cX11_singers : ByteArray := prog_13_method_19_code
def yX11_singers : MethodName := ⟨RX11, "singers", "()I"⟩
abbrev cX11_size : ByteArray := prog_13_method_20_code
def yX11_size : MethodName := ⟨RX11, "size", "(I)I"⟩
abbrev cX11_paceBy : ByteArray := prog_13_method_21_code
def yX11_paceBy : MethodName := ⟨RX11, "paceBy", "(II)I"⟩
abbrev cX11_paceAt : ByteArray := prog_13_method_22_code
def yX11_paceAt : MethodName := ⟨RX11, "paceAt", "(I)I"⟩
abbrev cX11_slows : ByteArray := prog_13_method_23_code
def yX11_slows : MethodName := ⟨RX11, "slows", "(II)I"⟩
abbrev cX11_apart : ByteArray := prog_13_method_24_code
def yX11_apart : MethodName := ⟨RX11, "apart", "(I)I"⟩
abbrev cX11_count : ByteArray := prog_13_method_25_code
def yX11_count : MethodName := ⟨RX11, "count", "(I)I"⟩
abbrev cX11_hold : ByteArray := prog_13_method_26_code
def yX11_hold : MethodName := ⟨RX11, "hold", "(II)I"⟩
abbrev cX11_bars : ByteArray := prog_13_method_27_code
def yX11_bars : MethodName := ⟨RX11, "bars", "(II)I"⟩
abbrev cX11_together : ByteArray := prog_13_method_28_code
def yX11_together : MethodName := ⟨RX11, "together", "(II)I"⟩
abbrev cX11_type : ByteArray := prog_13_method_29_code
def yX11_type : MethodName := ⟨RX11, "type", "(JI)I"⟩
abbrev cX11_next : ByteArray := prog_13_method_30_code
def yX11_next : MethodName := ⟨RX11, "next", "()I"⟩
abbrev cX11_reads : ByteArray := prog_13_method_31_code
def yX11_reads : MethodName := ⟨RX11, "reads", "(II)I"⟩
abbrev cX11_piece : ByteArray := prog_13_method_32_code
def yX11_piece : MethodName := ⟨RX11, "piece", "()I"⟩
abbrev cX11_sound : ByteArray := prog_13_method_33_code
def yX11_sound : MethodName := ⟨RX11, "sound", "(I)I"⟩
abbrev cX11_fit : ByteArray := prog_13_method_34_code
def yX11_fit : MethodName := ⟨RX11, "fit", "(I)I"⟩
abbrev cX11_clashesAt : ByteArray := prog_13_method_35_code
def yX11_clashesAt : MethodName := ⟨RX11, "clashesAt", "(I)I"⟩
abbrev cX11_clashes : ByteArray := prog_13_method_36_code
def yX11_clashes : MethodName := ⟨RX11, "clashes", "(I)I"⟩
abbrev cX11_canon : ByteArray := prog_13_method_37_code
def yX11_canon : MethodName := ⟨RX11, "canon", "(I)I"⟩
abbrev cX11_sea : ByteArray := prog_13_method_38_code
def yX11_sea : MethodName := ⟨RX11, "sea", "(II)I"⟩
abbrev cX11_lose : ByteArray := prog_13_method_39_code
def yX11_lose : MethodName := ⟨RX11, "lose", "(IIIZ)I"⟩
abbrev cX11_tells : ByteArray := prog_13_method_40_code
def yX11_tells : MethodName := ⟨RX11, "tells", "(I)V"⟩
abbrev cX11_knows : ByteArray := prog_13_method_41_code
def yX11_knows : MethodName := ⟨RX11, "knows", "(II)I"⟩
abbrev cX11_goes : ByteArray := prog_13_method_42_code
def yX11_goes : MethodName := ⟨RX11, "goes", "(II)I"⟩
abbrev cX11_loss : ByteArray := prog_13_method_43_code
def yX11_loss : MethodName := ⟨RX11, "loss", "(J)I"⟩
abbrev cX11_lostBy : ByteArray := prog_13_method_44_code
def yX11_lostBy : MethodName := ⟨RX11, "lostBy", "(II)I"⟩
abbrev cX11_lost : ByteArray := prog_13_method_45_code
def yX11_lost : MethodName := ⟨RX11, "lost", "(II)I"⟩
abbrev cX11_group : ByteArray := prog_13_method_46_code
def yX11_group : MethodName := ⟨RX11, "group", "()I"⟩
abbrev cX11_clear : ByteArray := prog_13_method_47_code
def yX11_clear : MethodName := ⟨RX11, "clear", "()I"⟩
abbrev cX11_most : ByteArray := prog_13_method_48_code
def yX11_most : MethodName := ⟨RX11, "most", "(I)I"⟩
abbrev cX11_parts : ByteArray := prog_13_method_49_code
def yX11_parts : MethodName := ⟨RX11, "parts", "(I)Z"⟩
abbrev cX11_waitOf : ByteArray := prog_13_method_50_code
def yX11_waitOf : MethodName := ⟨RX11, "waitOf", "(I)I"⟩
abbrev cX11_net : ByteArray := prog_13_method_51_code
def yX11_net : MethodName := ⟨RX11, "net", "()I"⟩
abbrev cX11_image : ByteArray := prog_13_method_52_code
def yX11_image : MethodName := ⟨RX11, "image", "(I)I"⟩
abbrev cX11_restore : ByteArray := prog_13_method_53_code
def yX11_restore : MethodName := ⟨RX11, "restore", "(I)I"⟩
abbrev cX11_isSheet : ByteArray := prog_13_method_54_code
def yX11_isSheet : MethodName := ⟨RX11, "isSheet", "(I)Z"⟩
abbrev cX11_isLane : ByteArray := prog_13_method_55_code
def yX11_isLane : MethodName := ⟨RX11, "isLane", "(I)Z"⟩
abbrev cX11_finds : ByteArray := prog_13_method_56_code
def yX11_finds : MethodName := ⟨RX11, "finds", "(IIII)I"⟩
abbrev cX11_sheet : ByteArray := prog_13_method_57_code
def yX11_sheet : MethodName := ⟨RX11, "sheet", "(III)I"⟩
abbrev cX11_drop : ByteArray := prog_13_method_58_code
def yX11_drop : MethodName := ⟨RX11, "drop", "(I)I"⟩
abbrev cX11_item : ByteArray := prog_13_method_59_code
def yX11_item : MethodName := ⟨RX11, "item", "(IIII)I"⟩
abbrev cX11_copy : ByteArray := prog_13_method_60_code
def yX11_copy : MethodName := ⟨RX11, "copy", "(IIIII)I"⟩
def RJ6 : String := "java/lang/Integer"
def TJ6 : u_T := fun k => match k with
  | _ => ("", "", "", false)
def tyJ6 : Nat → FieldType := fun k => match k with
  | _ => .int
abbrev wsJ60 : List Cond := u_ws RJ6 TJ6 0
theorem nmJ6 : ∀ a, a < 0 → ∀ b, b < 0 → a ≠ b → (TJ6 a).2.1 ≠ (TJ6 b).2.1 := by decide +kernel
theorem tyJ6_ok : ∀ k, k < 0 → parseFieldDescriptor (TJ6 k).2.2.1 = some (tyJ6 k) := by decide +kernel
abbrev cJ6_bitCount_0f7a4 : ByteArray := prog_14_method_49_code
def yJ6_bitCount_0f7a4 : MethodName := ⟨RJ6, "bitCount", "(I)I"⟩
def RJ9 : String := "java/lang/Math"
def TJ9 : u_T := fun k => match k with
  | _ => ("", "", "", false)
def tyJ9 : Nat → FieldType := fun k => match k with
  | _ => .int
abbrev wsJ90 : List Cond := u_ws RJ9 TJ9 0
theorem nmJ9 : ∀ a, a < 0 → ∀ b, b < 0 → a ≠ b → (TJ9 a).2.1 ≠ (TJ9 b).2.1 := by decide +kernel
theorem tyJ9_ok : ∀ k, k < 0 → parseFieldDescriptor (TJ9 k).2.2.1 = some (tyJ9 k) := by decide +kernel
abbrev cJ9_abs_0f7a4 : ByteArray := prog_15_method_59_code
def yJ9_abs_0f7a4 : MethodName := ⟨RJ9, "abs", "(I)I"⟩
abbrev cJ9_max_7cf53 : ByteArray := prog_15_method_65_code
def yJ9_max_7cf53 : MethodName := ⟨RJ9, "max", "(II)I"⟩
abbrev cJ9_min_7cf53 : ByteArray := prog_15_method_69_code
def yJ9_min_7cf53 : MethodName := ⟨RJ9, "min", "(II)I"⟩
def RJ10 : String := "java/lang/System"
def TJ10 : u_T := fun k => match k with
  | _ => ("", "", "", false)
def tyJ10 : Nat → FieldType := fun k => match k with
  | _ => .int
abbrev wsJ100 : List Cond := u_ws RJ10 TJ10 0
theorem nmJ10 : ∀ a, a < 0 → ∀ b, b < 0 → a ≠ b → (TJ10 a).2.1 ≠ (TJ10 b).2.1 := by decide +kernel
theorem tyJ10_ok : ∀ k, k < 0 → parseFieldDescriptor (TJ10 k).2.2.1 = some (tyJ10 k) := by decide +kernel
def RJ7 : String := "java/util/Arrays"
def TJ7 : u_T := fun k => match k with
  | _ => ("", "", "", false)
def tyJ7 : Nat → FieldType := fun k => match k with
  | _ => .int
abbrev wsJ70 : List Cond := u_ws RJ7 TJ7 0
theorem nmJ7 : ∀ a, a < 0 → ∀ b, b < 0 → a ≠ b → (TJ7 a).2.1 ≠ (TJ7 b).2.1 := by decide +kernel
theorem tyJ7_ok : ∀ k, k < 0 → parseFieldDescriptor (TJ7 k).2.2.1 = some (tyJ7 k) := by decide +kernel
abbrev cJ7_fill_53178 : ByteArray := prog_17_method_103_code
def yJ7_fill_53178 : MethodName := ⟨RJ7, "fill", "([II)V"⟩
def RL : String := "ChoirWiresLaw"
abbrev cL_law : ByteArray := code
def yL_law : MethodName := ⟨RL, "law", "([I)Z"⟩
end
section
/-! THE STATE, AND THE WORLD: every cell has a number (id); ints, longs and movable references of all cells in three memories -/
abbrev St : Type := (Nat → Nat → Int32) × (Nat → Nat → Int64) × (Nat → Nat → Nat)
def rI (S : St) (a k : Nat) : Int32 := S.1 a k
def rJ (S : St) (a k : Nat) : Int64 := S.2.1 a k
def rR (S : St) (a k : Nat) : Nat := S.2.2 a k
def wI (S : St) (a k : Nat) (v : Int32) : St := (fun x j => if x = a ∧ j = k then v else S.1 x j, S.2)
def wJ (S : St) (a k : Nat) (v : Int64) : St := (S.1, fun x j => if x = a ∧ j = k then v else S.2.1 x j, S.2.2)
def wR (S : St) (a k : Nat) (v : Nat) : St := (S.1, S.2.1, fun x j => if x = a ∧ j = k then v else S.2.2 x j)
/-- a stretch of ints copied between two cells -/
def cI (S : St) (a0 sp a1 dp n : Nat) : St := (fun x j => if x = a1 then va_cpy (S.1 a0) (S.1 a1) sp dp n j else S.1 x j, S.2)
def cJ (S : St) (a0 sp a1 dp n : Nat) : St := (S.1, fun x j => if x = a1 then va_cpy (S.2.1 a0) (S.2.1 a1) sp dp n j else S.2.1 x j, S.2.2)
/-- a stretch of a fixed row copied into a cell -/
def cF (S : St) (f : Nat → Int32) (sp a1 dp n : Nat) : St := (fun x j => if x = a1 then va_cpy f (S.1 a1) sp dp n j else S.1 x j, S.2)
def fI (S : St) (a : Nat) (v : Int32) : St := (fun x j => if x = a then v else S.1 x j, S.2)
/-- kinds: (0, class), (1, n) ints, (2, n) longs, (3, n) bytes, (4, n) booleans, (5, n) images, (6, n) sheets -/
def kd (id : Nat) : Nat × Nat :=
  [(0, 10), (0, 1), (0, 6), (1, 48), (1, 64), (1, 56), (0, 5), (1, 64), (0, 3), (2, 8), (5, 2), (0, 8), (0, 5), (1, 64), (3, 120), (6, 4),
   (0, 7), (1, 40), (0, 7), (1, 40), (0, 7), (1, 40), (0, 7), (1, 40), (0, 0), (1, 8), (1, 8), (1, 64), (1, 8), (1, 8), (0, 2), (1, 8), (0, 9), (1, 8), (1, 8), (0, 4),
   (1, 6), (1, 6), (1, 6), (1, 6), (1, 6), (1, 36),
   (0, 1), (0, 6), (1, 48), (1, 64), (1, 56), (0, 5), (1, 64), (0, 3), (2, 8), (0, 1), (0, 6), (1, 48), (1, 64), (1, 56), (0, 5), (1, 64), (0, 3), (2, 8),
   (0, 11), (1, 648), (2, 8), (1, 328), (1, 8), (1, 120), (1, 64), (1, 8), (1, 8), (1, 6), (1, 4), (1, 6), (1, 10), (1, 36), (1, 1296), (2, 16), (4, 2), (1, 4), (1, 4), (1, 160), (1, 40)].getD id (9, 0)
def kk_ (id : Nat) : Nat := (kd id).1
def kl (id : Nat) : Nat := (kd id).2
/-- cells that are there from the start on -/
def sid : List Nat := List.range' 0 42 ++ List.range' 60 21
def ids (S : St) : List Nat := sid ++ ((if rR S 10 0 = 0 then [] else List.range' 42 9) ++ (if rR S 10 1 = 0 then [] else List.range' 51 9))
/-- the kind of a field: 0 an int, 1 a final reference, 2 one that moves -/
def fk (ci k : Nat) : Nat := (([[2, 2, 1, 1, 1], [1, 1, 1, 0], [1], [0, 1], [0, 1, 1, 1, 1, 1, 1], [0, 1], [0, 0, 0, 1, 1, 1], [0, 0, 1], [0, 1, 1, 0], [2, 2], [1, 1, 1, 1, 1, 1, 1, 1], [1, 1, 1, 1, 1, 0, 0, 1, 1, 1, 1, 1, 1, 1, 1, 1, 1, 1, 1, 1, 1, 1]] : List (List Nat)).getD ci []).getD k 9
def nfl (ci : Nat) : Nat := ([5, 4, 1, 2, 7, 2, 6, 3, 4, 2, 8, 22] : List Nat).getD ci 0
/-- where a final reference leads: so many cells on -/
def off (ci k : Nat) : Nat := (([[0, 0, 3, 4, 5], [1, 5, 7, 0], [1], [0, 1], [0, 1, 2, 3, 4, 5, 6], [0, 1], [0, 0, 0, 1, 2, 3], [0, 0, 1], [0, 1, 3, 0], [0, 0], [1, 10, 11, 15, 24, 30, 32, 35], [1, 2, 3, 4, 5, 0, 0, 6, 7, 8, 9, 10, 11, 12, 13, 14, 15, 16, 17, 18, 19, 20]] : List (List Nat)).getD ci []).getD k 0
abbrev cl : List vw_C := [(RX0, TX0, 5), (RX1, TX1, 4), (RX2, TX2, 1), (RX3, TX3, 2), (RX4, TX4, 7), (RX5, TX5, 2), (RX6, TX6, 6), (RX7, TX7, 3), (RX8, TX8, 4), (RX9, TX9, 2), (RX10, TX10, 8), (RX11, TX11, 22)]
/-- classes and slots, classes of arrays by kind, addresses, where the world begins, the two tables -/
abbrev En : Type := va_G × (Nat → ClassId) × (Nat → Nat) × Nat × Nat × Nat
abbrev En.ad (E : En) : Nat → Nat := E.2.2.1
abbrev En.ar (E : En) : Nat → ClassId := E.2.1
abbrev Ab (E : En) : Nat → Prop := fun q => E.2.2.2.1 ≤ q
def fv (E : En) (S : St) (id ci k : Nat) : Value := if fk ci k = 0 then .int (rI S id k) else if fk ci k = 1 then .ref (E.ad (id + off ci k)) else .ref (E.ad (rR S id k))
def cellOf (E : En) (S : St) (id : Nat) : va_E :=
  if kk_ id = 0 then .inr (kl id, (List.range (nfl (kl id))).map (fv E S id (kl id)))
  else if kk_ id = 2 then .inl (E.ar 2, kl id, .inr (.inl (rJ S id)))
  else if kk_ id = 5 then .inl (E.ar 5, kl id, .inr (.inr (.inr (.inr (fun k => if rR S id k = 0 then none else some (E.ad (rR S id k)))))))
  else if kk_ id = 6 then .inl (E.ar 6, kl id, .inr (.inr (.inr (.inr (fun k => some (E.ad (16 + 2 * k)))))))
  else .inl (E.ar (kk_ id), kl id, .inl (rI S id))
def wsOf (E : En) (S : St) : va_W := (ids S).map (fun id => (E.ad id, cellOf E S id))
def tys (E : En) : List (ClassId × FieldType) := [(E.ar 0, .int), (E.ar 1, .int), (E.ar 2, .long), (E.ar 3, .byte), (E.ar 4, .boolean), (E.ar 5, .object RX1), (E.ar 6, .object RX7)]
def FIRSTV (k : Nat) : Int32 := ([0, 10, 50, 0, 0, 0] : List Int32).getD k 0
def MOSTV (k : Nat) : Int32 := ([5, 99, 100, 999, 400, 63] : List Int32).getD k 0
/-- the two tables of the class -/
def Tb (E : En) (U : State) (H : Heap) : Prop :=
  (va_Z RX10 "FIRST_VALUES" "[I" (.ref E.2.2.2.2.1) (Ab E) U H ∧ va_X E.2.2.2.2.1 6 FIRSTV U H ∧ E.2.2.2.2.1 < E.2.2.2.1) ∧
  (va_Z RX10 "MOST_VALUES" "[I" (.ref E.2.2.2.2.2) (Ab E) U H ∧ va_X E.2.2.2.2.2 6 MOSTV U H ∧ E.2.2.2.2.2 < E.2.2.2.1)
/-- the whole world at a state -/
def Pw (E : En) (S : St) (U : State) : Prop := va_P E.1 cl (wsOf E S) U.heap ∧ va_D (Ab E) (wsOf E S) ∧ va_K E.1 cl (tys E) U ∧ Tb E U U.heap
/-- the same in the midst of a method -/
def Ww (E : En) (S : St) (s : State) (H : Heap) (locs : List Loc) : Prop := va_P E.1 cl (wsOf E S) H ∧ va_D (Ab E) (wsOf E S) ∧ va_S (Ab E) s.heap H locs
/-- what does not change within a method -/
def Cx (E : En) (p : Program) (s : State) (m : MethodId) (args : Array Value) (c : Code) (cc : ByteArray) (nL : Nat) (own : String) (U : List Cond) : Prop :=
  CallFix p m c cc nL s args U own ∧ va_K E.1 cl (tys E) s ∧ Tb E s s.heap
/-! the words that all methods share -/
def UU : List Cond := lw_tbl.filter goodWord
theorem UU_good : ∀ w ∈ UU, (w.onTables && w.keeps) = true ∨ ∃ ty, w = .arrayClass ty := fun w h => good_of_word (List.mem_filter.mp h).2
theorem UU_in : ∀ w ∈ UU, w ∈ lw_tbl := fun w h => (List.mem_filter.mp h).1
theorem inUU {w : Cond} (h : (decide (w ∈ lw_tbl) && goodWord w) = true) : w ∈ UU := by
  simp only [Bool.and_eq_true, decide_eq_true_eq] at h
  exact List.mem_filter.mpr h
theorem gUV {big : List Cond} {own C : String} {idx n : Nat} {y : MethodName} {cc : ByteArray} {ret : Option FieldType} (hb : ∀ w ∈ UU, w ∈ big) (h1 : Cond.methodLink own idx y ∈ UU) (h2 : Cond.instanceMethod y ∈ UU) (h3 : Cond.selects C y y ∈ UU) (h4 : Cond.initialized C ∈ UU) (h5 : Cond.code y cc n ret ∈ UU) : GoodIn big (wsV own idx C y (Cond.code y cc n ret :: UU)) := by
  intro w hw
  have key : w ∈ UU := by
    simp only [wsV, List.mem_append, List.mem_cons, List.not_mem_nil, or_false] at hw
    rcases hw with (rfl | rfl | rfl | rfl) | rfl | h
    · exact h1
    · exact h2
    · exact h3
    · exact h4
    · exact h5
    · exact h
  exact ⟨hb w key, UU_good w key⟩
theorem gUS {big : List Cond} {own : String} {idx n : Nat} {y : MethodName} {cc : ByteArray} {ret : Option FieldType} (hb : ∀ w ∈ UU, w ∈ big) (h1 : Cond.methodLink own idx y ∈ UU) (h2 : Cond.static y ∈ UU) (h4 : Cond.initialized y.cls ∈ UU) (h5 : Cond.code y cc n ret ∈ UU) : GoodIn big (va_wsS own idx y (Cond.code y cc n ret :: UU)) := by
  intro w hw
  have key : w ∈ UU := by
    simp only [va_wsS, List.mem_append, List.mem_cons, List.not_mem_nil, or_false] at hw
    rcases hw with (rfl | rfl | rfl) | rfl | h
    · exact h1
    · exact h2
    · exact h4
    · exact h5
    · exact h
  exact ⟨hb w key, UU_good w key⟩
set_option maxRecDepth 100000 in
theorem clU : ∀ (ci : Nat) (q : vw_C), cl[ci]? = some q → ∀ w ∈ u_ws q.1 q.2.1 q.2.2, w ∈ UU := by
  have key : cl.all (fun q => (u_ws q.1 q.2.1 q.2.2).all (fun w => decide (w ∈ lw_tbl) && goodWord w)) = true := by decide +kernel
  intro ci q hq w hw
  have h1 := List.all_eq_true.mp key q (List.mem_of_getElem? hq)
  exact inUU (List.all_eq_true.mp h1 w hw)
theorem cl_nfl {ci : Nat} {q : vw_C} (h : cl[ci]? = some q) : q.2.2 = nfl ci := by
  have key : ∀ i, i < 12 → (cl[i]?.map fun q => q.2.2) = some (nfl i) := by decide
  have hl : ci < 12 := (List.getElem?_eq_some_iff.mp h).1
  have := key ci hl
  rw [h] at this
  exact Option.some.inj this
def tyOf (d : String) : FieldType := (parseFieldDescriptor d).getD .int
theorem cl_ty : ∀ (ci : Nat) (q : vw_C), cl[ci]? = some q → ∀ k, k < q.2.2 → parseFieldDescriptor (q.2.1 k).2.2.1 = some (tyOf (q.2.1 k).2.2.1) := by
  have key : cl.all (fun q => (List.range q.2.2).all (fun k => (parseFieldDescriptor (q.2.1 k).2.2.1).isSome)) = true := by decide +kernel
  intro ci q hq k hk
  have h1 := List.all_eq_true.mp (List.all_eq_true.mp key q (List.mem_of_getElem? hq)) k (List.mem_range.mpr hk)
  obtain ⟨t, ht⟩ := Option.isSome_iff_exists.mp h1
  rw [tyOf, ht]
  rfl
theorem cl_nm : ∀ (ci : Nat) (q : vw_C), cl[ci]? = some q → ∀ a, a < q.2.2 → ∀ b, b < q.2.2 → a ≠ b → (q.2.1 a).2.1 ≠ (q.2.1 b).2.1 := by
  have key : cl.all (fun q => (List.range q.2.2).all (fun a => (List.range q.2.2).all (fun b => decide (a = b) || decide ((q.2.1 a).2.1 ≠ (q.2.1 b).2.1)))) = true := by decide +kernel
  intro ci q hq a ha b hb hne
  have h1 := List.all_eq_true.mp (List.all_eq_true.mp (List.all_eq_true.mp key q (List.mem_of_getElem? hq)) a (List.mem_range.mpr ha)) b (List.mem_range.mpr hb)
  simp only [Bool.or_eq_true, decide_eq_true_eq] at h1
  exact h1.resolve_left hne
end
section
/-! what the world's memories answer, and the rows of the instructions that touch it -/
def inB (i : Int32) (n : Nat) : Bool := !decide (i < 0) && decide (i.toNatClampNeg < n)
theorem inB_in {i : Int32} {n : Nat} (h : inB i n = true) : vp_in i n := by
  simp only [inB, Bool.and_eq_true, Bool.not_eq_true', decide_eq_false_iff_not, decide_eq_true_eq] at h
  exact fun q => q.elim h.1 (fun z => absurd h.2 (Nat.not_lt.mpr z))
def okA (S : St) (kn id : Nat) (i : Int32) : Prop := kk_ id = kn ∧ id ∈ ids S ∧ inB i (kl id) = true
def ldA (S : St) (id : Nat) (i : Int32) : Option Int32 := if kk_ id = 1 ∧ id ∈ ids S ∧ inB i (kl id) = true then some (rI S id i.toNatClampNeg) else none
def stA (S : St) (id : Nat) (i v : Int32) : Option St := if kk_ id = 1 ∧ id ∈ ids S ∧ inB i (kl id) = true then some (wI S id i.toNatClampNeg v) else none
def ldB (S : St) (id : Nat) (i : Int32) : Option Int32 := if kk_ id = 3 ∧ id ∈ ids S ∧ inB i (kl id) = true then some (rI S id i.toNatClampNeg) else none
def stB (S : St) (id : Nat) (i v : Int32) : Option St := if kk_ id = 3 ∧ id ∈ ids S ∧ inB i (kl id) = true then some (wI S id i.toNatClampNeg (vp_nar .byte v)) else none
def ldZ (S : St) (id : Nat) (i : Int32) : Option Int32 := if kk_ id = 4 ∧ id ∈ ids S ∧ inB i (kl id) = true then some (rI S id i.toNatClampNeg) else none
def stZ (S : St) (id : Nat) (i v : Int32) : Option St := if kk_ id = 4 ∧ id ∈ ids S ∧ inB i (kl id) = true then some (wI S id i.toNatClampNeg (vp_nar .boolean v)) else none
def ldL (S : St) (id : Nat) (i : Int32) : Option Int64 := if kk_ id = 2 ∧ id ∈ ids S ∧ inB i (kl id) = true then some (rJ S id i.toNatClampNeg) else none
def stL (S : St) (id : Nat) (i : Int32) (v : Int64) : Option St := if kk_ id = 2 ∧ id ∈ ids S ∧ inB i (kl id) = true then some (wJ S id i.toNatClampNeg v) else none
def ldS (i : Int32) : Option Nat := if inB i 4 = true then some (16 + 2 * i.toNatClampNeg) else none
def ldT (f : Nat → Int32) (i : Int32) : Option Int32 := if inB i 6 = true then some (f i.toNatClampNeg) else none
def stF (S : St) (id k : Nat) (v : Int32) : Option St := some (wI S id k v)
def stR (S : St) (id k v : Nat) : Option St := some (wR S id k v)
/-- is the cell an object of that class -/
def ckO (S : St) (id ci : Nat) : Option Unit := if kk_ id = 0 ∧ kl id = ci ∧ id ∈ ids S then some () else none
def dvO (x y : Int32) : Option Int32 := if y = 0 then none else some (x / y)
def rmO (x y : Int32) : Option Int32 := if y = 0 then none else some (x - x / y * y)
def alO (S : St) (id : Nat) : Option Int32 := if kk_ id = 1 ∧ id ∈ ids S then some (Int32.ofNat (kl id)) else none
def alL (S : St) (id : Nat) : Option Int32 := if kk_ id = 2 ∧ id ∈ ids S then some (Int32.ofNat (kl id)) else none
def cpI (S : St) (a0 : Nat) (sp : Int32) (a1 : Nat) (dp n : Int32) : Option St := if (kk_ a0 = 1 ∧ a0 ∈ ids S) ∧ (kk_ a1 = 1 ∧ a1 ∈ ids S) ∧ (¬ sp < 0 ∧ ¬ dp < 0 ∧ ¬ n < 0) ∧ sp.toNatClampNeg + n.toNatClampNeg ≤ kl a0 ∧ dp.toNatClampNeg + n.toNatClampNeg ≤ kl a1 then some (cI S a0 sp.toNatClampNeg a1 dp.toNatClampNeg n.toNatClampNeg) else none
def cpJ (S : St) (a0 : Nat) (sp : Int32) (a1 : Nat) (dp n : Int32) : Option St := if (kk_ a0 = 2 ∧ a0 ∈ ids S) ∧ (kk_ a1 = 2 ∧ a1 ∈ ids S) ∧ (¬ sp < 0 ∧ ¬ dp < 0 ∧ ¬ n < 0) ∧ sp.toNatClampNeg + n.toNatClampNeg ≤ kl a0 ∧ dp.toNatClampNeg + n.toNatClampNeg ≤ kl a1 then some (cJ S a0 sp.toNatClampNeg a1 dp.toNatClampNeg n.toNatClampNeg) else none
def cpF (S : St) (f : Nat → Int32) (sp : Int32) (a1 : Nat) (dp n : Int32) : Option St := if (kk_ a1 = 1 ∧ a1 ∈ ids S) ∧ (¬ sp < 0 ∧ ¬ dp < 0 ∧ ¬ n < 0) ∧ sp.toNatClampNeg + n.toNatClampNeg ≤ 6 ∧ dp.toNatClampNeg + n.toNatClampNeg ≤ kl a1 then some (cF S f sp.toNatClampNeg a1 dp.toNatClampNeg n.toNatClampNeg) else none
theorem if_so {α : Type} {c : Prop} [Decidable c] {x y : α} (h : (if c then some x else none) = some y) : c ∧ x = y := by
  by_cases hc : c
  · rw [if_pos hc] at h
    exact ⟨hc, Option.some.inj h⟩
  · rw [if_neg hc] at h
    cases h
theorem bd_so {α β : Type} {x : Option α} {f : α → Option β} {y : β} (h : x.bind f = some y) : ∃ a, x = some a ∧ f a = some y := by
  cases x with
  | none => cases h
  | some a => exact ⟨a, rfl, h⟩
/-! places in the world -/
theorem ids_nodup (S : St) : (ids S).Nodup := by
  unfold ids
  split <;> split <;> decide
theorem ws_at (E : En) {S : St} {id : Nat} (h : id ∈ ids S) : ∃ j : Nat, (wsOf E S)[j]? = some (E.ad id, cellOf E S id) ∧ (ids S)[j]? = some id := by
  obtain ⟨j, hj⟩ := List.getElem?_of_mem h
  exact ⟨j, by rw [wsOf, List.getElem?_map, hj]; rfl, hj⟩
theorem ws_set (E : En) {S S' : St} {id j : Nat} (hj : (ids S)[j]? = some id) (hi : ids S' = ids S) (ho : ∀ x, x ≠ id → cellOf E S' x = cellOf E S x) : (wsOf E S).set j (E.ad id, cellOf E S' id) = wsOf E S' := by
  apply List.ext_getElem?
  intro k
  unfold wsOf
  rw [hi, List.getElem?_set, List.getElem?_map, List.getElem?_map, List.length_map]
  have hl : j < (ids S).length := (List.getElem?_eq_some_iff.mp hj).1
  by_cases hk : j = k
  · subst hk
    rw [if_pos rfl, if_pos hl, hj]
    rfl
  · rw [if_neg hk]
    cases h : (ids S)[k]? with
    | none => rfl
    | some x =>
      have hx : x ≠ id := by
        intro e
        subst e
        exact hk ((List.getElem?_inj hl (ids_nodup S)).mp (hj.trans h.symm))
      simp only [Option.map_some]
      rw [ho x hx]
theorem cell_congr (E : En) {S S' : St} {x : Nat} (h1 : ∀ j, rI S' x j = rI S x j) (h2 : ∀ j, rJ S' x j = rJ S x j) (h3 : ∀ j, rR S' x j = rR S x j) : cellOf E S' x = cellOf E S x := by
  have e1 : rI S' x = rI S x := funext h1
  have e2 : rJ S' x = rJ S x := funext h2
  have e3 : rR S' x = rR S x := funext h3
  have e4 : ∀ ci k, fv E S' x ci k = fv E S x ci k := fun ci k => by unfold fv; rw [h1, h3]
  have e5 : fv E S' x (kl x) = fv E S x (kl x) := funext (e4 (kl x))
  unfold cellOf
  rw [e1, e2, e3, e5]
theorem ids_wI (S : St) (a k : Nat) (v : Int32) : ids (wI S a k v) = ids S := rfl
theorem ids_wJ (S : St) (a k : Nat) (v : Int64) : ids (wJ S a k v) = ids S := rfl
theorem ids_cI (S : St) (a0 sp a1 dp n : Nat) : ids (cI S a0 sp a1 dp n) = ids S := rfl
theorem ids_cJ (S : St) (a0 sp a1 dp n : Nat) : ids (cJ S a0 sp a1 dp n) = ids S := rfl
theorem ids_cF (S : St) (f : Nat → Int32) (sp a1 dp n : Nat) : ids (cF S f sp a1 dp n) = ids S := rfl
theorem ids_wR (S : St) (a k v : Nat) (h : a ≠ 10) : ids (wR S a k v) = ids S := by
  have e : ∀ j, rR (wR S a k v) 10 j = rR S 10 j := fun j => by simp [rR, wR, Ne.symm h]
  unfold ids
  rw [e, e]
theorem cell_arr (E : En) (S : St) {id kn : Nat} (h : kk_ id = kn) (h0 : kn ≠ 0) (h2 : kn ≠ 2) (h5 : kn ≠ 5) (h6 : kn ≠ 6) : cellOf E S id = .inl (E.ar kn, kl id, .inl (rI S id)) := by
  unfold cellOf
  rw [h, if_neg h0, if_neg h2, if_neg h5, if_neg h6]
theorem cell_lon (E : En) (S : St) {id : Nat} (h : kk_ id = 2) : cellOf E S id = .inl (E.ar 2, kl id, .inr (.inl (rJ S id))) := by
  unfold cellOf
  rw [h]
  rfl
theorem cell_obj (E : En) (S : St) {id ci : Nat} (h : kk_ id = 0) (h2 : kl id = ci) : cellOf E S id = .inr (ci, (List.range (nfl ci)).map (fv E S id ci)) := by
  unfold cellOf
  rw [h, h2]
  rfl
theorem upd_wI (S : St) (id k : Nat) (v : Int32) : upd (rI S id) k v = rI (wI S id k v) id := by
  funext j
  simp [upd, rI, wI]
theorem upd_wJ (S : St) (id k : Nat) (v : Int64) : vp_updL (rJ S id) k v = rJ (wJ S id k v) id := by
  funext j
  simp [vp_updL, rJ, wJ]
section ROWS
variable {p : Program} {l : Launch} {e : Env} {R : Room} {s : State} {m : MethodId} {args : Array Value} {below : List Frame} {meth : Method} {c : Code} {H : Heap} {locs : List Loc} {cells slots : Nat} {Q : State → Prop}
variable {cc : ByteArray} {nL pc : Nat} {ls : Array Slot} {rest : List Value} {E : En} {S S1 : St} {own : String} {Us : List Cond} {id : Nat} {i x v : Int32}
theorem g_get {ci k index : Nat} {q : vw_C} {val : Value} (C : Cx E p s m args c cc nL own Us) (hUs : ∀ w ∈ UU, w ∈ Us) (hW : Ww E S s H locs) (hc : cl[ci]? = some q) (hk0 : kk_ id = 0) (hk1 : kl id = ci) (hid : id ∈ ids S) (hk : k < nfl ci) (hlink : Cond.fieldLink own index (q.2.1 k).1 (q.2.1 k).2.1 (q.2.1 k).2.2.1 ∈ UU) (hv : fv E S id ci k = val) (hdg : decode cc pc = .ok (.getfield index, 3))
    (kk : W p l e R s m args below meth c H locs cells slots Q (F0 m (pc + 3) ls (val :: rest))) : W p l e R s m args below meth c H locs cells slots Q (F0 m pc ls (.ref (E.ad id) :: rest)) := by
  obtain ⟨⟨hx, hb, hml, hown, hts⟩, hK, -⟩ := C
  obtain ⟨j, hj, -⟩ := ws_at E hid
  rw [cell_obj E S hk0 hk1] at hj
  have hN := cl_nfl hc
  obtain ⟨C0, T0, N0⟩ := q
  have hN : N0 = nfl ci := hN
  subst hN
  refine va_get hx hb (fun w h => hts w (hUs w h)) (clU ci _ hc) hown hK hW.1 j hj hc k hk (hts _ (hUs _ hlink)) (fun _ h => h) ?_ hdg kk
  rw [List.getElem?_map, List.getElem?_range hk]
  exact congrArg some hv
theorem g_putW {ci k index : Nat} {q : vw_C} {val : Value} (C : Cx E p s m args c cc nL own Us) (hUs : ∀ w ∈ UU, w ∈ Us) (hW : Ww E S s H locs) (hc : cl[ci]? = some q) (hk0 : kk_ id = 0) (hk1 : kl id = ci) (hid : id ∈ ids S) (hk : k < nfl ci) (hlink : Cond.fieldLink own index (q.2.1 k).1 (q.2.1 k).2.1 (q.2.1 k).2.2.1 ∈ UU) (hfin : (q.2.1 k).2.2.2 = false)
    (hn : narrow (tyOf (q.2.1 k).2.2.1) val = val) (hfit : fits (tyOf (q.2.1 k).2.2.1) val = true) (hi : ids S1 = ids S) (ho : ∀ y, y ≠ id → cellOf E S1 y = cellOf E S y) (hs : ∀ j, fv E S1 id ci j = if j = k then val else fv E S id ci j) (hdg : decode cc pc = .ok (.putfield index, 3))
    (kk : ∀ (H1 : Heap) (locs1 : List Loc), Ww E S1 s H1 locs1 → W p l e R s m args below meth c H1 locs1 cells slots Q (F0 m (pc + 3) ls rest)) : W p l e R s m args below meth c H locs cells slots Q (F0 m pc ls (val :: .ref (E.ad id) :: rest)) := by
  obtain ⟨⟨hx, hb, hml, hown, hts⟩, hK, -⟩ := C
  obtain ⟨j, hj, hj2⟩ := ws_at E hid
  rw [cell_obj E S hk0 hk1] at hj
  have hN := cl_nfl hc
  have hty := cl_ty ci q hc
  have hnm := cl_nm ci q hc
  obtain ⟨C0, T0, N0⟩ := q
  have hN : N0 = nfl ci := hN
  subst hN
  have e0 : ((List.range (nfl ci)).map (fv E S id ci)).set k val = (List.range (nfl ci)).map (fv E S1 id ci) := by
    apply List.ext_getElem?
    intro y
    rw [List.getElem?_set, List.getElem?_map, List.getElem?_map, List.length_map, List.length_range]
    by_cases hy : k = y
    · subst hy
      rw [if_pos rfl, if_pos hk, List.getElem?_range hk]
      show some val = some _
      rw [hs, if_pos rfl]
    · rw [if_neg hy]
      by_cases hy2 : y < nfl ci
      · rw [List.getElem?_range hy2]
        show some _ = some _
        rw [hs, if_neg (Ne.symm hy)]
      · rw [List.getElem?_eq_none (by rw [List.length_range]; omega)]
        rfl
  refine va_put hx hb (fun w h => hts w (hUs w h)) (clU ci _ hc) (fun k => tyOf (T0 k).2.2.1) hty hnm hown hK hW.1 hW.2.1 hW.2.2 j hj hc k hk (hts _ (hUs _ hlink)) (fun _ h => h) hfin (hty k hk) hn hfit (by rw [List.length_map, List.length_range]; exact hk) hdg (fun H1 locs1 p1 d1 s1 => kk H1 locs1 ?_)
  rw [e0, ← cell_obj E S1 hk0 hk1, ws_set E hj2 hi ho] at p1 d1
  exact ⟨p1, d1, s1⟩
theorem wI_cell (E : En) (S : St) (id k : Nat) (v : Int32) : ∀ y, y ≠ id → cellOf E (wI S id k v) y = cellOf E S y := fun y hy => cell_congr E (fun j => by simp [rI, wI, hy]) (fun _ => rfl) (fun _ => rfl)
theorem wJ_cell (E : En) (S : St) (id k : Nat) (v : Int64) : ∀ y, y ≠ id → cellOf E (wJ S id k v) y = cellOf E S y := fun y hy => cell_congr E (fun _ => rfl) (fun j => by simp [rJ, wJ, hy]) (fun _ => rfl)
theorem wR_cell (E : En) (S : St) (id k v : Nat) : ∀ y, y ≠ id → cellOf E (wR S id k v) y = cellOf E S y := fun y hy => cell_congr E (fun _ => rfl) (fun _ => rfl) (fun j => by simp [rR, wR, hy])
theorem g_putI {ci k index : Nat} {q : vw_C} (C : Cx E p s m args c cc nL own Us) (hUs : ∀ w ∈ UU, w ∈ Us) (hW : Ww E S s H locs) (hc : cl[ci]? = some q) (hk0 : kk_ id = 0) (hk1 : kl id = ci) (hid : id ∈ ids S) (hk : k < nfl ci) (hlink : Cond.fieldLink own index (q.2.1 k).1 (q.2.1 k).2.1 (q.2.1 k).2.2.1 ∈ UU) (hfin : (q.2.1 k).2.2.2 = false) (hty : tyOf (q.2.1 k).2.2.1 = .int) (hfk : fk ci k = 0) (h : stF S id k v = some S1) (hdg : decode cc pc = .ok (.putfield index, 3))
    (kk : ∀ (H1 : Heap) (locs1 : List Loc), Ww E S1 s H1 locs1 → W p l e R s m args below meth c H1 locs1 cells slots Q (F0 m (pc + 3) ls rest)) : W p l e R s m args below meth c H locs cells slots Q (F0 m pc ls (.int v :: .ref (E.ad id) :: rest)) := by
  cases h
  refine g_putW (S1 := wI S id k v) C hUs hW hc hk0 hk1 hid hk hlink hfin (by rw [hty]; rfl) (by rw [hty]; rfl) rfl (wI_cell E S id k v) (fun j => ?_) hdg kk
  by_cases hj : j = k
  · subst hj
    simp [fv, hfk, rI, wI]
  · simp [fv, rI, wI, hj, rR]
theorem g_putR {ci k index v : Nat} {q : vw_C} (C : Cx E p s m args c cc nL own Us) (hUs : ∀ w ∈ UU, w ∈ Us) (hW : Ww E S s H locs) (hc : cl[ci]? = some q) (hk0 : kk_ id = 0) (hk1 : kl id = ci) (hid : id ∈ ids S) (hk : k < nfl ci) (hlink : Cond.fieldLink own index (q.2.1 k).1 (q.2.1 k).2.1 (q.2.1 k).2.2.1 ∈ UU) (hfin : (q.2.1 k).2.2.2 = false) (hty : tyOf (q.2.1 k).2.2.1 = .array .int) (hfk : fk ci k = 2) (hne : id ≠ 10) (h : stR S id k v = some S1) (hdg : decode cc pc = .ok (.putfield index, 3))
    (kk : ∀ (H1 : Heap) (locs1 : List Loc), Ww E S1 s H1 locs1 → W p l e R s m args below meth c H1 locs1 cells slots Q (F0 m (pc + 3) ls rest)) : W p l e R s m args below meth c H locs cells slots Q (F0 m pc ls (.ref (E.ad v) :: .ref (E.ad id) :: rest)) := by
  cases h
  refine g_putW (S1 := wR S id k v) C hUs hW hc hk0 hk1 hid hk hlink hfin (by rw [hty]; rfl) (by rw [hty]; rfl) (ids_wR S id k v hne) (wR_cell E S id k v) (fun j => ?_) hdg kk
  by_cases hj : j = k
  · subst hj
    simp [fv, hfk, rR, wR]
  · simp [fv, rI, rR, wR, hj]
theorem g_iald (C : Cx E p s m args c cc nL own Us) (hW : Ww E S s H locs) (h : ldA S id i = some x) (hdg : decode cc pc = .ok (.iaload, 1))
    (kk : W p l e R s m args below meth c H locs cells slots Q (F0 m (pc + 1) ls (.int x :: rest))) : W p l e R s m args below meth c H locs cells slots Q (F0 m pc ls (.int i :: .ref (E.ad id) :: rest)) := by
  obtain ⟨⟨h1, h2, h3⟩, rfl⟩ := if_so h
  obtain ⟨j, hj, -⟩ := ws_at E h2
  rw [cell_arr E S h1 (by decide) (by decide) (by decide) (by decide)] at hj
  exact va_iald C.1.1 C.1.2.1 C.2.1 hW.1 j 1 hj rfl (inB_in h3) hdg kk
theorem g_bald (C : Cx E p s m args c cc nL own Us) (hW : Ww E S s H locs) (h : ldB S id i = some x) (hdg : decode cc pc = .ok (.baload, 1))
    (kk : W p l e R s m args below meth c H locs cells slots Q (F0 m (pc + 1) ls (.int x :: rest))) : W p l e R s m args below meth c H locs cells slots Q (F0 m pc ls (.int i :: .ref (E.ad id) :: rest)) := by
  obtain ⟨⟨h1, h2, h3⟩, rfl⟩ := if_so h
  obtain ⟨j, hj, -⟩ := ws_at E h2
  rw [cell_arr E S h1 (by decide) (by decide) (by decide) (by decide)] at hj
  exact va_bald C.1.1 C.1.2.1 C.2.1 hW.1 j 3 hj rfl (inB_in h3) hdg kk
theorem g_zald (C : Cx E p s m args c cc nL own Us) (hW : Ww E S s H locs) (h : ldZ S id i = some x) (hdg : decode cc pc = .ok (.baload, 1))
    (kk : W p l e R s m args below meth c H locs cells slots Q (F0 m (pc + 1) ls (.int x :: rest))) : W p l e R s m args below meth c H locs cells slots Q (F0 m pc ls (.int i :: .ref (E.ad id) :: rest)) := by
  obtain ⟨⟨h1, h2, h3⟩, rfl⟩ := if_so h
  obtain ⟨j, hj, -⟩ := ws_at E h2
  rw [cell_arr E S h1 (by decide) (by decide) (by decide) (by decide)] at hj
  exact va_zald C.1.1 C.1.2.1 C.2.1 hW.1 j 4 hj rfl (inB_in h3) hdg kk
theorem g_lald {x : Int64} (C : Cx E p s m args c cc nL own Us) (hW : Ww E S s H locs) (h : ldL S id i = some x) (hdg : decode cc pc = .ok (.laload, 1))
    (kk : W p l e R s m args below meth c H locs cells slots Q (F0 m (pc + 1) ls (.long x :: rest))) : W p l e R s m args below meth c H locs cells slots Q (F0 m pc ls (.int i :: .ref (E.ad id) :: rest)) := by
  obtain ⟨⟨h1, h2, h3⟩, rfl⟩ := if_so h
  obtain ⟨j, hj, -⟩ := ws_at E h2
  rw [cell_lon E S h1] at hj
  exact va_lald C.1.1 C.1.2.1 C.2.1 hW.1 j 2 hj rfl (inB_in h3) hdg kk
theorem g_iast (C : Cx E p s m args c cc nL own Us) (hW : Ww E S s H locs) (h : stA S id i x = some S1) (hdg : decode cc pc = .ok (.iastore, 1))
    (kk : ∀ (H1 : Heap) (locs1 : List Loc), Ww E S1 s H1 locs1 → W p l e R s m args below meth c H1 locs1 cells slots Q (F0 m (pc + 1) ls rest)) : W p l e R s m args below meth c H locs cells slots Q (F0 m pc ls (.int x :: .int i :: .ref (E.ad id) :: rest)) := by
  obtain ⟨⟨h1, h2, h3⟩, rfl⟩ := if_so h
  obtain ⟨j, hj, hj2⟩ := ws_at E h2
  rw [cell_arr E S h1 (by decide) (by decide) (by decide) (by decide)] at hj
  refine va_iast C.1.1 C.1.2.1 C.2.1 hW.1 hW.2.1 hW.2.2 j 1 hj rfl (inB_in h3) hdg (fun H1 locs1 p1 d1 s1 => kk H1 locs1 ?_)
  rw [upd_wI, ← cell_arr E (wI S id i.toNatClampNeg x) h1 (by decide) (by decide) (by decide) (by decide), ws_set E (S' := wI S id i.toNatClampNeg x) hj2 rfl (wI_cell E S id _ x)] at p1 d1
  exact ⟨p1, d1, s1⟩
theorem g_bast (C : Cx E p s m args c cc nL own Us) (hW : Ww E S s H locs) (h : stB S id i x = some S1) (hdg : decode cc pc = .ok (.bastore, 1))
    (kk : ∀ (H1 : Heap) (locs1 : List Loc), Ww E S1 s H1 locs1 → W p l e R s m args below meth c H1 locs1 cells slots Q (F0 m (pc + 1) ls rest)) : W p l e R s m args below meth c H locs cells slots Q (F0 m pc ls (.int x :: .int i :: .ref (E.ad id) :: rest)) := by
  obtain ⟨⟨h1, h2, h3⟩, rfl⟩ := if_so h
  obtain ⟨j, hj, hj2⟩ := ws_at E h2
  rw [cell_arr E S h1 (by decide) (by decide) (by decide) (by decide)] at hj
  refine va_bast C.1.1 C.1.2.1 C.2.1 hW.1 hW.2.1 hW.2.2 j 3 hj rfl (inB_in h3) hdg (fun H1 locs1 p1 d1 s1 => kk H1 locs1 ?_)
  rw [upd_wI, ← cell_arr E (wI S id i.toNatClampNeg (vp_nar .byte x)) h1 (by decide) (by decide) (by decide) (by decide), ws_set E (S' := wI S id i.toNatClampNeg (vp_nar .byte x)) hj2 rfl (wI_cell E S id _ _)] at p1 d1
  exact ⟨p1, d1, s1⟩
theorem g_zast (C : Cx E p s m args c cc nL own Us) (hW : Ww E S s H locs) (h : stZ S id i x = some S1) (hdg : decode cc pc = .ok (.bastore, 1))
    (kk : ∀ (H1 : Heap) (locs1 : List Loc), Ww E S1 s H1 locs1 → W p l e R s m args below meth c H1 locs1 cells slots Q (F0 m (pc + 1) ls rest)) : W p l e R s m args below meth c H locs cells slots Q (F0 m pc ls (.int x :: .int i :: .ref (E.ad id) :: rest)) := by
  obtain ⟨⟨h1, h2, h3⟩, rfl⟩ := if_so h
  obtain ⟨j, hj, hj2⟩ := ws_at E h2
  rw [cell_arr E S h1 (by decide) (by decide) (by decide) (by decide)] at hj
  refine va_zast C.1.1 C.1.2.1 C.2.1 hW.1 hW.2.1 hW.2.2 j 4 hj rfl (inB_in h3) hdg (fun H1 locs1 p1 d1 s1 => kk H1 locs1 ?_)
  rw [upd_wI, ← cell_arr E (wI S id i.toNatClampNeg (vp_nar .boolean x)) h1 (by decide) (by decide) (by decide) (by decide), ws_set E (S' := wI S id i.toNatClampNeg (vp_nar .boolean x)) hj2 rfl (wI_cell E S id _ _)] at p1 d1
  exact ⟨p1, d1, s1⟩
theorem g_last {x : Int64} (C : Cx E p s m args c cc nL own Us) (hW : Ww E S s H locs) (h : stL S id i x = some S1) (hdg : decode cc pc = .ok (.lastore, 1))
    (kk : ∀ (H1 : Heap) (locs1 : List Loc), Ww E S1 s H1 locs1 → W p l e R s m args below meth c H1 locs1 cells slots Q (F0 m (pc + 1) ls rest)) : W p l e R s m args below meth c H locs cells slots Q (F0 m pc ls (.long x :: .int i :: .ref (E.ad id) :: rest)) := by
  obtain ⟨⟨h1, h2, h3⟩, rfl⟩ := if_so h
  obtain ⟨j, hj, hj2⟩ := ws_at E h2
  rw [cell_lon E S h1] at hj
  refine va_last C.1.1 C.1.2.1 C.2.1 hW.1 hW.2.1 hW.2.2 j 2 hj rfl (inB_in h3) hdg (fun H1 locs1 p1 d1 s1 => kk H1 locs1 ?_)
  rw [upd_wJ, ← cell_lon E (wJ S id i.toNatClampNeg x) h1, ws_set E (S' := wJ S id i.toNatClampNeg x) hj2 rfl (wJ_cell E S id _ x)] at p1 d1
  exact ⟨p1, d1, s1⟩
theorem g_alen (C : Cx E p s m args c cc nL own Us) (hW : Ww E S s H locs) (h : alO S id = some x) (hdg : decode cc pc = .ok (.arraylength, 1))
    (kk : W p l e R s m args below meth c H locs cells slots Q (F0 m (pc + 1) ls (.int x :: rest))) : W p l e R s m args below meth c H locs cells slots Q (F0 m pc ls (.ref (E.ad id) :: rest)) := by
  obtain ⟨⟨h1, h2⟩, rfl⟩ := if_so h
  obtain ⟨j, hj, -⟩ := ws_at E h2
  rw [cell_arr E S h1 (by decide) (by decide) (by decide) (by decide)] at hj
  exact va_alen C.1.1 C.1.2.1 C.2.1 hW.1 j 1 hj (ty := .int) rfl rfl hdg kk
theorem g_alenL (C : Cx E p s m args c cc nL own Us) (hW : Ww E S s H locs) (h : alL S id = some x) (hdg : decode cc pc = .ok (.arraylength, 1))
    (kk : W p l e R s m args below meth c H locs cells slots Q (F0 m (pc + 1) ls (.int x :: rest))) : W p l e R s m args below meth c H locs cells slots Q (F0 m pc ls (.ref (E.ad id) :: rest)) := by
  obtain ⟨⟨h1, h2⟩, rfl⟩ := if_so h
  obtain ⟨j, hj, -⟩ := ws_at E h2
  rw [cell_lon E S h1] at hj
  exact va_alen C.1.1 C.1.2.1 C.2.1 hW.1 j 2 hj (ty := .long) rfl rfl hdg kk
theorem in_sid {id : Nat} (S : St) (h : decide (id ∈ sid) = true) : id ∈ ids S := List.mem_append_left _ (of_decide_eq_true h)
theorem g_sht {y : Nat} (C : Cx E p s m args c cc nL own Us) (hW : Ww E S s H locs) (h : ldS i = some y) (hdg : decode cc pc = .ok (.aaload, 1))
    (kk : W p l e R s m args below meth c H locs cells slots Q (F0 m (pc + 1) ls (.ref (E.ad y) :: rest))) : W p l e R s m args below meth c H locs cells slots Q (F0 m pc ls (.int i :: .ref (E.ad 15) :: rest)) := by
  obtain ⟨h3, rfl⟩ := if_so h
  obtain ⟨j, hj, -⟩ := ws_at E (in_sid (id := 15) S rfl)
  exact va_aldq C.1.1 C.1.2.1 C.2.1 hW.1 j 6 (n := 4) (C := RX7) (f := fun k => some (E.ad (16 + 2 * k))) hj rfl (inB_in h3) hdg kk
theorem g_gets1 {index : Nat} (C : Cx E p s m args c cc nL own Us) (hUs : ∀ w ∈ UU, w ∈ Us) (hW : Ww E S s H locs) (hlink : Cond.fieldLink own index RX10 "FIRST_VALUES" "[I" ∈ UU) (hdg : decode cc pc = .ok (.getstatic index, 3))
    (kk : W p l e R s m args below meth c H locs cells slots Q (F0 m (pc + 3) ls (.ref E.2.2.2.2.1 :: rest))) : W p l e R s m args below meth c H locs cells slots Q (F0 m pc ls rest) :=
  va_gets C.1.1 C.1.2.1 C.2.2.1.1 hW.2.2 C.1.2.2.2.1 (C.1.2.2.2.2 _ (hUs _ hlink)) (fun _ h => h) hdg kk
theorem g_gets2 {index : Nat} (C : Cx E p s m args c cc nL own Us) (hUs : ∀ w ∈ UU, w ∈ Us) (hW : Ww E S s H locs) (hlink : Cond.fieldLink own index RX10 "MOST_VALUES" "[I" ∈ UU) (hdg : decode cc pc = .ok (.getstatic index, 3))
    (kk : W p l e R s m args below meth c H locs cells slots Q (F0 m (pc + 3) ls (.ref E.2.2.2.2.2 :: rest))) : W p l e R s m args below meth c H locs cells slots Q (F0 m pc ls rest) :=
  va_gets C.1.1 C.1.2.1 C.2.2.2.1 hW.2.2 C.1.2.2.2.1 (C.1.2.2.2.2 _ (hUs _ hlink)) (fun _ h => h) hdg kk
theorem Tb_lt1 {U : State} (h : Tb E U H) : E.2.2.2.2.1 < H.size := by
  obtain ⟨⟨-, ⟨scr, h1, -⟩, -⟩, -⟩ := h
  exact (Array.getElem?_eq_some_iff.mp h1).1
theorem Tb_lt2 {U : State} (h : Tb E U H) : E.2.2.2.2.2 < H.size := by
  obtain ⟨-, -, ⟨scr, h1, -⟩, -⟩ := h
  exact (Array.getElem?_eq_some_iff.mp h1).1
theorem g_tld2 (C : Cx E p s m args c cc nL own Us) (hW : Ww E S s H locs) (h : ldT MOSTV i = some x) (hdg : decode cc pc = .ok (.iaload, 1))
    (kk : W p l e R s m args below meth c H locs cells slots Q (F0 m (pc + 1) ls (.int x :: rest))) : W p l e R s m args below meth c H locs cells slots Q (F0 m pc ls (.int i :: .ref E.2.2.2.2.2 :: rest)) := by
  obtain ⟨h3, rfl⟩ := if_so h
  exact va_sld C.1.1 C.1.2.1 C.2.2.2.2.1 (Tb_lt2 C.2.2) (Nat.not_le.mpr C.2.2.2.2.2) hW.2.2 (inB_in h3) hdg kk
end ROWS
end
section
theorem i_vc : Claimed_1_1 ∧ Claimed_1_2 := sorry
end
