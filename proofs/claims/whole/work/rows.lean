section
-- ===== PART A: goes FIRST, ahead of the names: the tables' words, and 'selects' of the private methods out of them =====
/-- a private method of a class that the tables say can be made, by its rows of tables_1 -/
def lw_okq (q : MethodName × Nat) : Prop := (q.1.cls ≠ "java/lang/invoke/MethodHandle" ∧ q.1.cls ≠ "java/lang/invoke/VarHandle") ∧ Cond.instantiable q.1.cls q.2 ∈ tables_1 ∧ Cond.privateMethod q.1 ∈ tables_1 ∧ Cond.instanceMethod q.1 ∈ tables_1
theorem lw_p0 : lw_okq (⟨"FermionMaps", "isSet", "(I)Z"⟩, 3) := ⟨⟨by decide +kernel, by decide +kernel⟩, List.mem_of_getElem? (i := 13) (by decide +kernel), List.mem_of_getElem? (i := 150) (by decide +kernel), List.mem_of_getElem? (i := 151) (by decide +kernel)⟩
theorem lw_p1 : lw_okq (⟨"java/lang/Throwable", "fillInStackTrace", "(I)Ljava/lang/Throwable;"⟩, 6) := ⟨⟨by decide +kernel, by decide +kernel⟩, List.mem_of_getElem? (i := 366) (by decide +kernel), List.mem_of_getElem? (i := 364) (by decide +kernel), List.mem_of_getElem? (i := 365) (by decide +kernel)⟩
theorem lw_p2 : lw_okq (⟨"FermionMapsModel", "start", "(I)V"⟩, 25) := ⟨⟨by decide +kernel, by decide +kernel⟩, List.mem_of_getElem? (i := 428) (by decide +kernel), List.mem_of_getElem? (i := 435) (by decide +kernel), List.mem_of_getElem? (i := 436) (by decide +kernel)⟩
theorem lw_p3 : lw_okq (⟨"FermionMapsModel", "writeAll", "()V"⟩, 25) := ⟨⟨by decide +kernel, by decide +kernel⟩, List.mem_of_getElem? (i := 428) (by decide +kernel), List.mem_of_getElem? (i := 439) (by decide +kernel), List.mem_of_getElem? (i := 440) (by decide +kernel)⟩
theorem lw_p4 : lw_okq (⟨"FermionMapsModel", "states", "()I"⟩, 25) := ⟨⟨by decide +kernel, by decide +kernel⟩, List.mem_of_getElem? (i := 428) (by decide +kernel), List.mem_of_getElem? (i := 443) (by decide +kernel), List.mem_of_getElem? (i := 444) (by decide +kernel)⟩
theorem lw_p5 : lw_okq (⟨"FermionMapsModel", "write", "(II)I"⟩, 25) := ⟨⟨by decide +kernel, by decide +kernel⟩, List.mem_of_getElem? (i := 428) (by decide +kernel), List.mem_of_getElem? (i := 447) (by decide +kernel), List.mem_of_getElem? (i := 448) (by decide +kernel)⟩
theorem lw_p6 : lw_okq (⟨"FermionMapsModel", "setOf", "(II)I"⟩, 25) := ⟨⟨by decide +kernel, by decide +kernel⟩, List.mem_of_getElem? (i := 428) (by decide +kernel), List.mem_of_getElem? (i := 451) (by decide +kernel), List.mem_of_getElem? (i := 452) (by decide +kernel)⟩
theorem lw_p7 : lw_okq (⟨"FermionMapsModel", "isState", "(I)Z"⟩, 25) := ⟨⟨by decide +kernel, by decide +kernel⟩, List.mem_of_getElem? (i := 428) (by decide +kernel), List.mem_of_getElem? (i := 546) (by decide +kernel), List.mem_of_getElem? (i := 547) (by decide +kernel)⟩
theorem lw_p8 : lw_okq (⟨"FermionMapsModel", "put", "(IIJ)Z"⟩, 25) := ⟨⟨by decide +kernel, by decide +kernel⟩, List.mem_of_getElem? (i := 428) (by decide +kernel), List.mem_of_getElem? (i := 552) (by decide +kernel), List.mem_of_getElem? (i := 553) (by decide +kernel)⟩
theorem lw_p9 : lw_okq (⟨"FermionMapsModel", "take", "()I"⟩, 25) := ⟨⟨by decide +kernel, by decide +kernel⟩, List.mem_of_getElem? (i := 428) (by decide +kernel), List.mem_of_getElem? (i := 556) (by decide +kernel), List.mem_of_getElem? (i := 557) (by decide +kernel)⟩
theorem lw_p10 : lw_okq (⟨"FermionMapsModel", "fillMatrix", "()V"⟩, 25) := ⟨⟨by decide +kernel, by decide +kernel⟩, List.mem_of_getElem? (i := 428) (by decide +kernel), List.mem_of_getElem? (i := 564) (by decide +kernel), List.mem_of_getElem? (i := 565) (by decide +kernel)⟩
theorem lw_p11 : lw_okq (⟨"FermionMapsModel", "make", "(III)Z"⟩, 25) := ⟨⟨by decide +kernel, by decide +kernel⟩, List.mem_of_getElem? (i := 428) (by decide +kernel), List.mem_of_getElem? (i := 568) (by decide +kernel), List.mem_of_getElem? (i := 569) (by decide +kernel)⟩
theorem lw_p12 : lw_okq (⟨"FermionMapsModel", "climb", "(IZ)Z"⟩, 25) := ⟨⟨by decide +kernel, by decide +kernel⟩, List.mem_of_getElem? (i := 428) (by decide +kernel), List.mem_of_getElem? (i := 572) (by decide +kernel), List.mem_of_getElem? (i := 573) (by decide +kernel)⟩
theorem lw_p13 : lw_okq (⟨"FermionMapsModel", "multiply", "(IZZ)V"⟩, 25) := ⟨⟨by decide +kernel, by decide +kernel⟩, List.mem_of_getElem? (i := 428) (by decide +kernel), List.mem_of_getElem? (i := 576) (by decide +kernel), List.mem_of_getElem? (i := 577) (by decide +kernel)⟩
theorem lw_p14 : lw_okq (⟨"FermionMapsModel", "readOff", "()Z"⟩, 25) := ⟨⟨by decide +kernel, by decide +kernel⟩, List.mem_of_getElem? (i := 428) (by decide +kernel), List.mem_of_getElem? (i := 580) (by decide +kernel), List.mem_of_getElem? (i := 581) (by decide +kernel)⟩
theorem lw_p15 : lw_okq (⟨"FermionMapsModel", "raise", "()I"⟩, 25) := ⟨⟨by decide +kernel, by decide +kernel⟩, List.mem_of_getElem? (i := 428) (by decide +kernel), List.mem_of_getElem? (i := 592) (by decide +kernel), List.mem_of_getElem? (i := 593) (by decide +kernel)⟩
def lw_privs_1 : List (MethodName × Nat) := [(⟨"FermionMaps", "isSet", "(I)Z"⟩, 3), (⟨"java/lang/Throwable", "fillInStackTrace", "(I)Ljava/lang/Throwable;"⟩, 6), (⟨"FermionMapsModel", "start", "(I)V"⟩, 25), (⟨"FermionMapsModel", "writeAll", "()V"⟩, 25), (⟨"FermionMapsModel", "states", "()I"⟩, 25), (⟨"FermionMapsModel", "write", "(II)I"⟩, 25), (⟨"FermionMapsModel", "setOf", "(II)I"⟩, 25), (⟨"FermionMapsModel", "isState", "(I)Z"⟩, 25), (⟨"FermionMapsModel", "put", "(IIJ)Z"⟩, 25), (⟨"FermionMapsModel", "take", "()I"⟩, 25), (⟨"FermionMapsModel", "fillMatrix", "()V"⟩, 25), (⟨"FermionMapsModel", "make", "(III)Z"⟩, 25), (⟨"FermionMapsModel", "climb", "(IZ)Z"⟩, 25), (⟨"FermionMapsModel", "multiply", "(IZZ)V"⟩, 25), (⟨"FermionMapsModel", "readOff", "()Z"⟩, 25), (⟨"FermionMapsModel", "raise", "()I"⟩, 25)]
theorem lw_r1 : ∀ q ∈ lw_privs_1, lw_okq q := List.forall_mem_cons.mpr ⟨lw_p0, List.forall_mem_cons.mpr ⟨lw_p1, List.forall_mem_cons.mpr ⟨lw_p2, List.forall_mem_cons.mpr ⟨lw_p3, List.forall_mem_cons.mpr ⟨lw_p4, List.forall_mem_cons.mpr ⟨lw_p5, List.forall_mem_cons.mpr ⟨lw_p6, List.forall_mem_cons.mpr ⟨lw_p7, List.forall_mem_cons.mpr ⟨lw_p8, List.forall_mem_cons.mpr ⟨lw_p9, List.forall_mem_cons.mpr ⟨lw_p10, List.forall_mem_cons.mpr ⟨lw_p11, List.forall_mem_cons.mpr ⟨lw_p12, List.forall_mem_cons.mpr ⟨lw_p13, List.forall_mem_cons.mpr ⟨lw_p14, List.forall_mem_cons.mpr ⟨lw_p15, fun _ h => absurd h List.not_mem_nil⟩⟩⟩⟩⟩⟩⟩⟩⟩⟩⟩⟩⟩⟩⟩⟩
theorem lw_p16 : lw_okq (⟨"FermionMapsModel", "findImage", "()V"⟩, 25) := ⟨⟨by decide +kernel, by decide +kernel⟩, List.mem_of_getElem? (i := 428) (by decide +kernel), List.mem_of_getElem? (i := 620) (by decide +kernel), List.mem_of_getElem? (i := 621) (by decide +kernel)⟩
theorem lw_p17 : lw_okq (⟨"FermionMapsModel", "addUp", "(I)V"⟩, 25) := ⟨⟨by decide +kernel, by decide +kernel⟩, List.mem_of_getElem? (i := 428) (by decide +kernel), List.mem_of_getElem? (i := 624) (by decide +kernel), List.mem_of_getElem? (i := 625) (by decide +kernel)⟩
theorem lw_p18 : lw_okq (⟨"FermionMapsModel", "listImage", "()V"⟩, 25) := ⟨⟨by decide +kernel, by decide +kernel⟩, List.mem_of_getElem? (i := 428) (by decide +kernel), List.mem_of_getElem? (i := 628) (by decide +kernel), List.mem_of_getElem? (i := 629) (by decide +kernel)⟩
theorem lw_p19 : lw_okq (⟨"FermionMapsModel", "isAllEven", "()Z"⟩, 25) := ⟨⟨by decide +kernel, by decide +kernel⟩, List.mem_of_getElem? (i := 428) (by decide +kernel), List.mem_of_getElem? (i := 632) (by decide +kernel), List.mem_of_getElem? (i := 633) (by decide +kernel)⟩
def lw_privs_2 : List (MethodName × Nat) := [(⟨"FermionMapsModel", "findImage", "()V"⟩, 25), (⟨"FermionMapsModel", "addUp", "(I)V"⟩, 25), (⟨"FermionMapsModel", "listImage", "()V"⟩, 25), (⟨"FermionMapsModel", "isAllEven", "()Z"⟩, 25)]
theorem lw_r2 : ∀ q ∈ lw_privs_2, lw_okq q := List.forall_mem_cons.mpr ⟨lw_p16, List.forall_mem_cons.mpr ⟨lw_p17, List.forall_mem_cons.mpr ⟨lw_p18, List.forall_mem_cons.mpr ⟨lw_p19, fun _ h => absurd h List.not_mem_nil⟩⟩⟩⟩
def lw_privs : List (MethodName × Nat) := lw_privs_1 ++ (lw_privs_2)
def lw_tbl : List Cond := k2_sels lw_privs ++ tables_1
theorem lw_privs_ok : ∀ q ∈ lw_privs, lw_okq q := by
  show ∀ q ∈ lw_privs_1 ++ (lw_privs_2), lw_okq q
  exact List.forall_mem_append.mpr ⟨lw_r1, lw_r2⟩
-- ===== end of PART A
/-- the tables' words that stay good under every call -/
def T0 : List Cond := lw_tbl.filter goodWord
theorem T0_of {w : Cond} (h : w ∈ lw_tbl) (g : goodWord w = true) : w ∈ T0 := List.mem_filter.mpr ⟨h, g⟩
theorem T0_tb {w : Cond} {i : Nat} (h : tables_1[i]? = some w) (g : goodWord w = true) : w ∈ T0 := T0_of (List.mem_append_right _ (List.mem_of_getElem? h)) g
theorem T0_pr {y : MethodName} {i : Nat} {n : Nat} (h : lw_privs[i]? = some (y, n)) (g : goodWord (Cond.selects y.cls y y) = true) : Cond.selects y.cls y y ∈ T0 := T0_of (List.mem_append_left _ (List.mem_map.mpr ⟨(y, n), List.mem_of_getElem? h, rfl⟩)) g
theorem T0_good {w : Cond} (h : w ∈ T0) : goodWord w = true := (List.mem_filter.mp h).2
theorem T0_in {ws : List Cond} (h : ∀ w ∈ ws, w ∈ T0) : GoodIn T0 ws := fun w hw => ⟨h w hw, good_of_word (T0_good (h w hw))⟩
def F_Pi : u_T := fun k => match k with
  | 0 => ("FermionMaps$Picture", "flipsOf", "[I", true)
  | 1 => ("FermionMaps$Picture", "termsAt", "[I", true)
  | 2 => ("FermionMaps$Picture", "numbers", "[J", true)
  | 3 => ("FermionMaps$Picture", "spread", "[I", true)
  | 4 => ("FermionMaps$Picture", "drawn", "Z", false)
  | 5 => ("FermionMaps$Picture", "held", "I", false)
  | 6 => ("FermionMaps$Picture", "terms", "I", false)
  | 7 => ("FermionMaps$Picture", "widest", "I", false)
  | 8 => ("FermionMaps$Picture", "halvings", "I", false)
  | _ => ("FermionMaps$Picture", "foundSigns", "I", false)
def t_Pi : Nat → FieldType := fun k => match k with
  | 0 => .array .int
  | 1 => .array .int
  | 2 => .array .long
  | 3 => .array .int
  | 4 => .boolean
  | 5 => .int
  | 6 => .int
  | 7 => .int
  | 8 => .int
  | _ => .int
theorem n_Pi : ∀ a, a < 10 → ∀ b, b < 10 → a ≠ b → (F_Pi a).2.1 ≠ (F_Pi b).2.1 := by decide +kernel
theorem t_Pi_ok : ∀ k, k < 10 → parseFieldDescriptor (F_Pi k).2.2.1 = some (t_Pi k) := by decide +kernel
def F_Su : u_T := fun k => match k with
  | 0 => ("FermionMaps$Sum", "keys", "[I", false)
  | 1 => ("FermionMaps$Sum", "numbers", "[I", false)
  | 2 => ("FermionMaps$Sum", "spareKeys", "[I", false)
  | 3 => ("FermionMaps$Sum", "spareNumbers", "[I", false)
  | _ => ("FermionMaps$Sum", "count", "I", false)
def t_Su : Nat → FieldType := fun k => match k with
  | 0 => .array .int
  | 1 => .array .int
  | 2 => .array .int
  | 3 => .array .int
  | _ => .int
theorem n_Su : ∀ a, a < 5 → ∀ b, b < 5 → a ≠ b → (F_Su a).2.1 ≠ (F_Su b).2.1 := by decide +kernel
theorem t_Su_ok : ∀ k, k < 5 → parseFieldDescriptor (F_Su k).2.2.1 = some (t_Su k) := by decide +kernel
def F_Wi : u_T := fun k => match k with
  | 0 => ("FermionMaps$Wiring", "told", "[I", true)
  | 1 => ("FermionMaps$Wiring", "rows", "[I", true)
  | 2 => ("FermionMaps$Wiring", "back", "[I", false)
  | 3 => ("FermionMaps$Wiring", "spareBack", "[I", false)
  | 4 => ("FermionMaps$Wiring", "left", "[I", true)
  | 5 => ("FermionMaps$Wiring", "size", "I", false)
  | _ => ("FermionMaps$Wiring", "kind", "I", false)
def t_Wi : Nat → FieldType := fun k => match k with
  | 0 => .array .int
  | 1 => .array .int
  | 2 => .array .int
  | 3 => .array .int
  | 4 => .array .int
  | 5 => .int
  | _ => .int
theorem n_Wi : ∀ a, a < 7 → ∀ b, b < 7 → a ≠ b → (F_Wi a).2.1 ≠ (F_Wi b).2.1 := by decide +kernel
theorem t_Wi_ok : ∀ k, k < 7 → parseFieldDescriptor (F_Wi k).2.2.1 = some (t_Wi k) := by decide +kernel
def F_FM : u_T := fun k => match k with
  | 0 => ("FermionMaps", "sum", "LFermionMaps$Sum;", true)
  | 1 => ("FermionMaps", "wiring", "LFermionMaps$Wiring;", true)
  | _ => ("FermionMaps", "picture", "LFermionMaps$Picture;", true)
def t_FM : Nat → FieldType := fun k => match k with
  | 0 => .object "FermionMaps$Sum"
  | 1 => .object "FermionMaps$Wiring"
  | _ => .object "FermionMaps$Picture"
theorem n_FM : ∀ a, a < 3 → ∀ b, b < 3 → a ≠ b → (F_FM a).2.1 ≠ (F_FM b).2.1 := by decide +kernel
theorem t_FM_ok : ∀ k, k < 3 → parseFieldDescriptor (F_FM k).2.2.1 = some (t_FM k) := by decide +kernel
def F_Mo : u_T := fun k => match k with
  | 0 => ("FermionMapsModel", "thrown", "I", false)
  | 1 => ("FermionMapsModel", "modes", "I", false)
  | 2 => ("FermionMapsModel", "products", "I", false)
  | 3 => ("FermionMapsModel", "upsOf", "[I", true)
  | 4 => ("FermionMapsModel", "downsOf", "[I", true)
  | 5 => ("FermionMapsModel", "numberOf", "[J", true)
  | 6 => ("FermionMapsModel", "wayKind", "I", false)
  | 7 => ("FermionMapsModel", "rowOf", "[I", true)
  | 8 => ("FermionMapsModel", "writes", "[I", true)
  | 9 => ("FermionMapsModel", "reads", "[I", true)
  | 10 => ("FermionMapsModel", "isImageKnown", "Z", false)
  | 11 => ("FermionMapsModel", "madeState", "I", false)
  | 12 => ("FermionMapsModel", "madeSign", "I", false)
  | 13 => ("FermionMapsModel", "matrix", "[J", true)
  | 14 => ("FermionMapsModel", "other", "[J", true)
  | 15 => ("FermionMapsModel", "newMany", "I", false)
  | 16 => ("FermionMapsModel", "newUps", "[I", true)
  | 17 => ("FermionMapsModel", "newDowns", "[I", true)
  | 18 => ("FermionMapsModel", "newNumber", "[J", true)
  | 19 => ("FermionMapsModel", "found", "[J", true)
  | 20 => ("FermionMapsModel", "image", "[J", true)
  | 21 => ("FermionMapsModel", "imagePlace", "[I", true)
  | 22 => ("FermionMapsModel", "imagePower", "I", false)
  | 23 => ("FermionMapsModel", "imageMany", "I", false)
  | _ => ("FermionMapsModel", "imageWires", "I", false)
def t_Mo : Nat → FieldType := fun k => match k with
  | 0 => .int
  | 1 => .int
  | 2 => .int
  | 3 => .array .int
  | 4 => .array .int
  | 5 => .array .long
  | 6 => .int
  | 7 => .array .int
  | 8 => .array .int
  | 9 => .array .int
  | 10 => .boolean
  | 11 => .int
  | 12 => .int
  | 13 => .array .long
  | 14 => .array .long
  | 15 => .int
  | 16 => .array .int
  | 17 => .array .int
  | 18 => .array .long
  | 19 => .array .long
  | 20 => .array .long
  | 21 => .array .int
  | 22 => .int
  | 23 => .int
  | _ => .int
theorem n_Mo : ∀ a, a < 25 → ∀ b, b < 25 → a ≠ b → (F_Mo a).2.1 ≠ (F_Mo b).2.1 := by decide +kernel
theorem t_Mo_ok : ∀ k, k < 25 → parseFieldDescriptor (F_Mo k).2.2.1 = some (t_Mo k) := by decide +kernel
abbrev cls : List vw_C := [("FermionMaps$Picture", F_Pi, 10), ("FermionMaps$Sum", F_Su, 5), ("FermionMaps$Wiring", F_Wi, 7), ("FermionMaps", F_FM, 3), ("FermionMapsModel", F_Mo, 25)]
def y_FM_init : MethodName := ⟨"FermionMaps", "<init>", "()V"⟩
def y_Su_init : MethodName := ⟨"FermionMaps$Sum", "<init>", "()V"⟩
def y_Wi_init : MethodName := ⟨"FermionMaps$Wiring", "<init>", "()V"⟩
def y_Pi_init : MethodName := ⟨"FermionMaps$Picture", "<init>", "()V"⟩
def y_Wi_reset : MethodName := ⟨"FermionMaps$Wiring", "reset", "(I)V"⟩
def y_FM_begin : MethodName := ⟨"FermionMaps", "begin", "(I)Z"⟩
def y_FM_add : MethodName := ⟨"FermionMaps", "add", "(III)I"⟩
def y_FM_isSet : MethodName := ⟨"FermionMaps", "isSet", "(I)Z"⟩
def y_FM_isBeyond : MethodName := ⟨"FermionMaps", "isBeyond", "(I)Z"⟩
def y_Su_take : MethodName := ⟨"FermionMaps$Sum", "take", "(II)Z"⟩
def y_Su_change : MethodName := ⟨"FermionMaps$Sum", "change", "(II)Z"⟩
def y_Su_strike : MethodName := ⟨"FermionMaps$Sum", "strike", "(I)V"⟩
def y_Su_insert : MethodName := ⟨"FermionMaps$Sum", "insert", "(III)V"⟩
def y_FM_ladder : MethodName := ⟨"FermionMaps", "ladder", "(IZZ)I"⟩
def y_Su_climb : MethodName := ⟨"FermionMaps$Sum", "climb", "(IZZ)Z"⟩
def y_Su_merge : MethodName := ⟨"FermionMaps$Sum", "merge", "(IIII)Z"⟩
def y_Su_seek : MethodName := ⟨"FermionMaps$Sum", "seek", "(III)I"⟩
def y_Ma_min : MethodName := ⟨"java/lang/Math", "min", "(II)I"⟩
def y_Su_signed : MethodName := ⟨"FermionMaps$Sum", "signed", "(II)I"⟩
def y_FM_isOdd : MethodName := ⟨"FermionMaps", "isOdd", "(I)Z"⟩
def y_In_bitCount : MethodName := ⟨"java/lang/Integer", "bitCount", "(I)I"⟩
def y_Su_useSpare : MethodName := ⟨"FermionMaps$Sum", "useSpare", "(I)V"⟩
def y_FM_clear : MethodName := ⟨"FermionMaps", "clear", "()V"⟩
def y_FM_way : MethodName := ⟨"FermionMaps", "way", "(I)Z"⟩
def y_Wi_choose : MethodName := ⟨"FermionMaps$Wiring", "choose", "(I)Z"⟩
def y_Wi_turnRound : MethodName := ⟨"FermionMaps$Wiring", "turnRound", "(I)Z"⟩
def y_Wi_rowOf : MethodName := ⟨"FermionMaps$Wiring", "rowOf", "(II)I"⟩
def y_Wi_bringUp : MethodName := ⟨"FermionMaps$Wiring", "bringUp", "(I)Z"⟩
def y_FM_has : MethodName := ⟨"FermionMaps", "has", "(II)Z"⟩
def y_FM_row : MethodName := ⟨"FermionMaps", "row", "(II)Z"⟩
def y_FM_written : MethodName := ⟨"FermionMaps", "written", "(I)I"⟩
def y_Wi_bits : MethodName := ⟨"FermionMaps$Wiring", "bits", "([II)I"⟩
def y_FM_read : MethodName := ⟨"FermionMaps", "read", "(I)I"⟩
def y_FM_total : MethodName := ⟨"FermionMaps", "total", "(I)I"⟩
def y_Pi_draw : MethodName := ⟨"FermionMaps$Picture", "draw", "(LFermionMaps$Sum;LFermionMaps$Wiring;)V"⟩
def y_Pi_markFlips : MethodName := ⟨"FermionMaps$Picture", "markFlips", "(LFermionMaps$Sum;LFermionMaps$Wiring;)V"⟩
def y_Su_upsOf : MethodName := ⟨"FermionMaps$Sum", "upsOf", "(I)I"⟩
def y_Su_downsOf : MethodName := ⟨"FermionMaps$Sum", "downsOf", "(I)I"⟩
def y_Pi_hold : MethodName := ⟨"FermionMaps$Picture", "hold", "(ILFermionMaps$Sum;LFermionMaps$Wiring;)V"⟩
def y_Pi_bring : MethodName := ⟨"FermionMaps$Picture", "bring", "(IIILFermionMaps$Wiring;)V"⟩
def y_FM_oddBelow : MethodName := ⟨"FermionMaps", "oddBelow", "(I)I"⟩
def y_Wi_signsOf : MethodName := ⟨"FermionMaps$Wiring", "signsOf", "(I)I"⟩
def y_FM_turnsAlways : MethodName := ⟨"FermionMaps", "turnsAlways", "(II)Z"⟩
def y_Pi_doubled : MethodName := ⟨"FermionMaps$Picture", "doubled", "(II)I"⟩
def y_Pi_tally : MethodName := ⟨"FermionMaps$Picture", "tally", "(I)J"⟩
def y_Ma_max : MethodName := ⟨"java/lang/Math", "max", "(II)I"⟩
def y_Pi_leastHalvings : MethodName := ⟨"FermionMaps$Picture", "leastHalvings", "(JI)I"⟩
def y_Su_isEven : MethodName := ⟨"FermionMaps$Sum", "isEven", "()Z"⟩
def y_La_product : MethodName := ⟨"FermionMapsLaw", "product", "(LFermionMaps;II[J)I"⟩
def y_FM_product : MethodName := ⟨"FermionMaps", "product", "(II)I"⟩
def y_La_makes : MethodName := ⟨"FermionMapsLaw", "makes", "(LFermionMaps;II[J)I"⟩
def y_FM_makes : MethodName := ⟨"FermionMaps", "makes", "(II)J"⟩
def y_Su_between : MethodName := ⟨"FermionMaps$Sum", "between", "(II)J"⟩
def y_La_image : MethodName := ⟨"FermionMapsLaw", "image", "(LFermionMaps;II[J)I"⟩
def y_FM_image : MethodName := ⟨"FermionMaps", "image", "(II)J"⟩
def y_Pi_find : MethodName := ⟨"FermionMaps$Picture", "find", "(ILFermionMaps$Sum;LFermionMaps$Wiring;)V"⟩
def y_Pi_foundNumber : MethodName := ⟨"FermionMaps$Picture", "foundNumber", "(I)J"⟩
def y_Mo_init : MethodName := ⟨"FermionMapsModel", "<init>", "()V"⟩
def y_Mo_start : MethodName := ⟨"FermionMapsModel", "start", "(I)V"⟩
def y_Mo_writeAll : MethodName := ⟨"FermionMapsModel", "writeAll", "()V"⟩
def y_Mo_states : MethodName := ⟨"FermionMapsModel", "states", "()I"⟩
def y_Mo_write : MethodName := ⟨"FermionMapsModel", "write", "(II)I"⟩
def y_Mo_setOf : MethodName := ⟨"FermionMapsModel", "setOf", "(II)I"⟩
def y_Mo_ones : MethodName := ⟨"FermionMapsModel", "ones", "(I)I"⟩
def y_Mo_thrown : MethodName := ⟨"FermionMapsModel", "thrown", "()I"⟩
def y_Mo_begin : MethodName := ⟨"FermionMapsModel", "begin", "(I)Z"⟩
def y_Mo_add : MethodName := ⟨"FermionMapsModel", "add", "(III)I"⟩
def y_Mo_isState : MethodName := ⟨"FermionMapsModel", "isState", "(I)Z"⟩
def y_Mo_put : MethodName := ⟨"FermionMapsModel", "put", "(IIJ)Z"⟩
def y_Mo_take : MethodName := ⟨"FermionMapsModel", "take", "()I"⟩
def y_Mo_ladder : MethodName := ⟨"FermionMapsModel", "ladder", "(IZZ)I"⟩
def y_Mo_fillMatrix : MethodName := ⟨"FermionMapsModel", "fillMatrix", "()V"⟩
def y_Mo_make : MethodName := ⟨"FermionMapsModel", "make", "(III)Z"⟩
def y_Mo_climb : MethodName := ⟨"FermionMapsModel", "climb", "(IZ)Z"⟩
def y_Mo_multiply : MethodName := ⟨"FermionMapsModel", "multiply", "(IZZ)V"⟩
def y_Mo_readOff : MethodName := ⟨"FermionMapsModel", "readOff", "()Z"⟩
def y_Mo_clear : MethodName := ⟨"FermionMapsModel", "clear", "()V"⟩
def y_Mo_product : MethodName := ⟨"FermionMapsModel", "product", "(II)I"⟩
def y_Mo_raise : MethodName := ⟨"FermionMapsModel", "raise", "()I"⟩
def y_Mo_makes : MethodName := ⟨"FermionMapsModel", "makes", "(II)J"⟩
def y_Mo_way : MethodName := ⟨"FermionMapsModel", "way", "(I)Z"⟩
def y_Mo_row : MethodName := ⟨"FermionMapsModel", "row", "(II)Z"⟩
def y_Mo_written : MethodName := ⟨"FermionMapsModel", "written", "(I)I"⟩
def y_Mo_read : MethodName := ⟨"FermionMapsModel", "read", "(I)I"⟩
def y_Mo_image : MethodName := ⟨"FermionMapsModel", "image", "(II)J"⟩
def y_Mo_findImage : MethodName := ⟨"FermionMapsModel", "findImage", "()V"⟩
def y_Mo_addUp : MethodName := ⟨"FermionMapsModel", "addUp", "(I)V"⟩
def y_Mo_listImage : MethodName := ⟨"FermionMapsModel", "listImage", "()V"⟩
def y_Mo_isAllEven : MethodName := ⟨"FermionMapsModel", "isAllEven", "()Z"⟩
def y_Mo_total : MethodName := ⟨"FermionMapsModel", "total", "(I)I"⟩
def nestL : List (String × Nat × MethodName × String) := [("FermionMaps", 9, ⟨"FermionMaps$Sum", "<init>", "()V"⟩, "FermionMaps"), ("FermionMaps", 18, ⟨"FermionMaps$Wiring", "<init>", "()V"⟩, "FermionMaps"), ("FermionMaps", 25, ⟨"FermionMaps$Picture", "<init>", "()V"⟩, "FermionMaps"), ("FermionMaps$Sum", 58, ⟨"FermionMaps", "isBeyond", "(I)Z"⟩, "FermionMaps"), ("FermionMaps$Sum", 43, ⟨"FermionMaps", "isOdd", "(I)Z"⟩, "FermionMaps"), ("FermionMaps$Wiring", 45, ⟨"FermionMaps", "has", "(II)Z"⟩, "FermionMaps"), ("FermionMaps$Wiring", 49, ⟨"FermionMaps", "isOdd", "(I)Z"⟩, "FermionMaps"), ("FermionMaps$Picture", 102, ⟨"FermionMaps", "oddBelow", "(I)I"⟩, "FermionMaps"), ("FermionMaps$Picture", 108, ⟨"FermionMaps", "turnsAlways", "(II)Z"⟩, "FermionMaps"), ("FermionMaps$Picture", 112, ⟨"FermionMaps", "has", "(II)Z"⟩, "FermionMaps"), ("FermionMaps$Sum", 40, ⟨"FermionMaps", "oddBelow", "(I)I"⟩, "FermionMaps"), ("FermionMaps$Sum", 47, ⟨"FermionMaps", "turnsAlways", "(II)Z"⟩, "FermionMaps")]
end
section
/-! pure words: naming, checks, sequencing -/
def nm {α β : Type} (x : α) (k : α → β) : β := k x
theorem nm_eq {α β : Type} {x y : α} {k : α → β} {r : β} (h : y = x) (hf : nm x k = r) : k y = r := by subst h; exact hf
theorem bd {α β : Type} {o : Option α} {k : α → Option β} {r : β} (hf : o.bind k = some r) : ∃ x, o = some x ∧ k x = some r := by
  cases o with
  | none => cases hf
  | some x => exact ⟨x, rfl, hf⟩
def ckI {β : Type} (i : Int32) (n : Nat) (k : Option β) : Option β := if i < 0 ∨ n ≤ i.toNatClampNeg then none else k
theorem ckI_ok {β : Type} {i : Int32} {n : Nat} {k : Option β} {r : β} (hf : ckI i n k = some r) : vp_in i n ∧ k = some r := by
  unfold ckI at hf
  by_cases h : i < 0 ∨ n ≤ i.toNatClampNeg
  · rw [if_pos h] at hf; cases hf
  · rw [if_neg h] at hf; exact ⟨h, hf⟩
def ckB {β : Type} (v : Int32) (k : Option β) : Option β := if v = 0 ∨ v = 1 then k else none
theorem ckB_ok {β : Type} {v : Int32} {k : Option β} {r : β} (hf : ckB v k = some r) : narrow .boolean (.int v) = .int v ∧ k = some r := by
  unfold ckB at hf
  by_cases h : v = 0 ∨ v = 1
  · rw [if_pos h] at hf
    refine ⟨?_, hf⟩
    rcases h with rfl | rfl <;> rfl
  · rw [if_neg h] at hf; cases hf
def ckZ {β : Type} (v : Int32) (k : Option β) : Option β := if v = 0 then none else k
theorem ckZ_ok {β : Type} {v : Int32} {k : Option β} {r : β} (hf : ckZ v k = some r) : ¬ v = 0 ∧ k = some r := by
  unfold ckZ at hf
  by_cases h : v = 0
  · rw [if_pos h] at hf; cases hf
  · rw [if_neg h] at hf; exact ⟨h, hf⟩
def ckZl {β : Type} (v : Int64) (k : Option β) : Option β := if v = 0 then none else k
theorem ckZl_ok {β : Type} {v : Int64} {k : Option β} {r : β} (hf : ckZl v k = some r) : ¬ v = 0 ∧ k = some r := by
  unfold ckZl at hf
  by_cases h : v = 0
  · rw [if_pos h] at hf; cases hf
  · rw [if_neg h] at hf; exact ⟨h, hf⟩
theorem if_t {β : Type} {c : Prop} [Decidable c] {a b r : β} (h : c) (hf : (if c then a else b) = r) : a = r := by rw [if_pos h] at hf; exact hf
theorem if_f {β : Type} {c : Prop} [Decidable c] {a b r : β} (h : ¬ c) (hf : (if c then a else b) = r) : b = r := by rw [if_neg h] at hf; exact hf
theorem no_fuel {β : Type} {r : β} {P : Prop} (h : (none : Option β) = some r) : P := by cases h
/-! what the nest mates' calls link, carried with the world -/
def NW (U : State) : Prop := ∀ q ∈ nestL, va_Nw (.methodLinkNest q.1 q.2.1 q.2.2.1 q.2.2.2) U
theorem NW.warm {s U : State} (hW : s.WarmedH U.vm) (h : NW s) : NW U := fun q hq => va_Nw.warmM hW (h q hq)
theorem NW.same {u U : State} (hv : u.vm = U.vm) (h : NW u) : NW U := fun q hq => va_Nw.same rfl hv (h q hq)
def Wr (D : va_G) (ws : va_W) (tys : List (ClassId × FieldType)) (U : State) : Prop := va_P D cls ws U.heap ∧ va_K D cls tys U ∧ NW U
def Ww (D : va_G) (ws : va_W) (tys : List (ClassId × FieldType)) (sz : Nat) (U : State) : Prop := U.heap.size = sz ∧ va_P D cls ws U.heap ∧ va_K D cls tys U ∧ va_D (fun _ => True) ws ∧ NW U
def Bw (D : va_G) (tys : List (ClassId × FieldType)) (A : Nat → Prop) (Rw : va_W → Prop) : Unit → State → Prop := fun _ t => ∃ w1, Rw w1 ∧ va_P D cls w1 t.heap ∧ va_K D cls tys t ∧ va_D A w1
theorem Wr_blind {D : va_G} {ws : va_W} {tys : List (ClassId × FieldType)} {av : List Value} : FrameBlind (va_Pc av (Wr D ws tys)) := fun a U g mk q => by
  obtain ⟨q0, qP, qK, qN⟩ := q
  exact ⟨q0, qP, va_K.moved (u := U) (U := U.calling g mk a) (Vm.Alike.refl U.vm) qK, NW.same (u := U) (U := U.calling g mk a) rfl qN⟩
theorem Ww_blind {D : va_G} {ws : va_W} {tys : List (ClassId × FieldType)} {av : List Value} {sz : Nat} : FrameBlind (va_Pc av (Ww D ws tys sz)) := fun a U g mk q => by
  obtain ⟨q0, q1, qP, qK, qD, qN⟩ := q
  exact ⟨q0, q1, qP, va_K.moved (u := U) (U := U.calling g mk a) (Vm.Alike.refl U.vm) qK, qD, NW.same (u := U) (U := U.calling g mk a) rfl qN⟩
/-! words of the calls, out of T0 -/
theorem gV {own : String} {idx : Nat} {C : String} {y : MethodName} {cd : Cond} (h1 : Cond.methodLink own idx y ∈ T0) (h2 : Cond.instanceMethod y ∈ T0) (h3 : Cond.selects C y y ∈ T0) (h4 : Cond.initialized C ∈ T0) (h5 : cd ∈ T0) : GoodIn T0 (wsV own idx C y (cd :: T0)) := T0_in (fun w hw => by
  unfold wsV at hw
  rcases List.mem_append.mp hw with h | h
  · simp only [List.mem_cons, List.not_mem_nil, or_false] at h
    rcases h with rfl | rfl | rfl | rfl <;> assumption
  · rcases List.mem_cons.mp h with rfl | h
    · exact h5
    · exact h)
theorem gS {own : String} {idx : Nat} {y : MethodName} {cd : Cond} (h1 : Cond.methodLink own idx y ∈ T0) (h2 : Cond.static y ∈ T0) (h4 : Cond.initialized y.cls ∈ T0) (h5 : cd ∈ T0) : GoodIn T0 (va_wsS own idx y (cd :: T0)) := T0_in (fun w hw => by
  unfold va_wsS at hw
  rcases List.mem_append.mp hw with h | h
  · simp only [List.mem_cons, List.not_mem_nil, or_false] at h
    rcases h with rfl | rfl | rfl <;> assumption
  · rcases List.mem_cons.mp h with rfl | h
    · exact h5
    · exact h)
theorem gC {cd : Cond} (h5 : cd ∈ T0) : GoodIn T0 (cd :: T0) := T0_in (fun w hw => by
  rcases List.mem_cons.mp hw with rfl | h
  · exact h5
  · exact h)
section TOOLS
variable {p : Program} {l : Launch} {e : Env} {R : Room} {s : State} {m : MethodId} {args : Array Value} {below : List Frame} {meth : Method} {c : Code} {H : Heap} {locs : List Loc} {cells slots : Nat} {Q : State → Prop} {pc : Nat} {ls : Array Slot} {D : va_G} {tys : List (ClassId × FieldType)} {ws wc wr : va_W} {A : Nat → Prop} {cc bytes : ByteArray} {nL maxL index n : Nat} {own C host : String} {y : MethodName} {ret : Option FieldType} {rm : Room} {b : Nat} {As rest st : List Value}
theorem W.nameQ {g : JFrame} (k : ∀ Q' : State → Prop, Q' = Q → W p l e R s m args below meth c H locs cells slots Q' g) : W p l e R s m args below meth c H locs cells slots Q g := k Q rfl
/-! readers -/
theorem rdV_run (S : CallFix p m c cc nL s args T0 own) {Qc : Array Value → State → Outcome → State → Prop} (hM : Met l y (Cond.code y bytes maxL ret :: T0) rm (va_Pc (.ref b :: As) (Wr D wc tys)) Qc 0 0 (fun _ => False)) (cw : CallW R s args own C index y bytes maxL ret (Cond.code y bytes maxL ret :: T0) rm 0 0 n) (hK : va_K D cls tys s) (hNW : NW s) (hP : va_P D cls ws H) (is : List Nat) (hs : is.filterMap (fun i => ws[i]?) = wc) {ci q0 N : Nat} {T : u_T} {fs : List Value} (hc : cls[ci]? = some (C, T, N)) (he : ws[q0]? = some (b, .inr (ci, fs))) (hn : As.length = n) (hsize : ls.size = nL) (hst : st = As.reverse ++ .ref b :: rest) (hW : (rest.map fun v => v.category).sum ≤ 8) (hdg : decode cc pc = .ok (.invokevirtual index, 3)) (hcs : cells ≤ R.cells ∧ slots ≤ R.slots) :
    CallRun p l e R s m args below meth c H locs cells slots 0 0 (F0 m pc ls st) rest (Qc (Value.ref b :: As).toArray) (fun _ => False) :=
  W.runV S hM cw ⟨Wr_blind, va_recv hK hP hc he, fun U hU hW => ⟨rfl, by rw [hU]; exact hP.sub is hs, va_K.moved hW.alike hK, NW.warm hW hNW⟩⟩ rfl hn hsize hst (lv_room hW) hdg hcs
theorem rdS_run (S : CallFix p m c cc nL s args T0 own) {Qc : Array Value → State → Outcome → State → Prop} (hM : Met l y (Cond.code y bytes maxL ret :: T0) rm (va_Pc As (Wr D wc tys)) Qc 0 0 (fun _ => False)) (cw : CallB R s args own index y bytes maxL ret (Cond.code y bytes maxL ret :: T0) rm 0 0 n ∧ (Cond.static y).before args s = true) (hK : va_K D cls tys s) (hNW : NW s) (hP : va_P D cls ws H) (is : List Nat) (hs : is.filterMap (fun i => ws[i]?) = wc) (hn : As.length = n) (hsize : ls.size = nL) (hst : st = As.reverse ++ rest) (hW : (rest.map fun v => v.category).sum ≤ 8) (hdg : decode cc pc = .ok (.invokestatic index, 3)) (hcs : cells ≤ R.cells ∧ slots ≤ R.slots) :
    CallRun p l e R s m args below meth c H locs cells slots 0 0 (F0 m pc ls st) rest (Qc As.toArray) (fun _ => False) :=
  W.runS S hM cw ⟨Wr_blind, fun U hU hW => ⟨rfl, by rw [hU]; exact hP.sub is hs, va_K.moved hW.alike hK, NW.warm hW hNW⟩⟩ rfl hn hsize hst (lv_room hW) hdg hcs
theorem rdSN_run (S : CallFix p m c cc nL s args T0 own) {Qc : Array Value → State → Outcome → State → Prop} (hM : Met l y (Cond.code y bytes maxL ret :: T0) rm (va_Pc As (Wr D wc tys)) Qc 0 0 (fun _ => False)) (cw : va_CN R s args own index y host bytes maxL ret (Cond.code y bytes maxL ret :: T0) rm 0 0 n ∧ (Cond.static y).before args s = true ∧ True) (hK : va_K D cls tys s) (hNW : NW s) (hP : va_P D cls ws H) (is : List Nat) (hs : is.filterMap (fun i => ws[i]?) = wc) (hn : As.length = n) (hsize : ls.size = nL) (hst : st = As.reverse ++ rest) (hW : (rest.map fun v => v.category).sum ≤ 8) (hdg : decode cc pc = .ok (.invokestatic index, 3)) (hcs : cells ≤ R.cells ∧ slots ≤ R.slots) :
    CallRun p l e R s m args below meth c H locs cells slots 0 0 (F0 m pc ls st) rest (Qc As.toArray) (fun _ => False) :=
  (va_runSN S hM cw ⟨Wr_blind, fun U hU hW => ⟨rfl, by rw [hU]; exact hP.sub is hs, va_K.moved hW.alike hK, NW.warm hW hNW⟩⟩ rfl hn hsize hst (lv_room hW) hdg hcs).run
theorem rd_i {v : Int32} {a : Array Value} (hr : CallRun p l e R s m args below meth c H locs cells slots 0 0 (F0 m pc ls st) rest (vp_Si (fun r => r = v) a) (fun _ => False)) (kk : W p l e R s m args below meth c H locs cells slots Q (F0 m (pc + 3) ls (.int v :: rest))) : W p l e R s m args below meth c H locs cells slots Q (F0 m pc ls st) := vp_callSi hr (fun r h => by rw [h]; exact kk)
theorem rd_l {v : Int64} {a : Array Value} (hr : CallRun p l e R s m args below meth c H locs cells slots 0 0 (F0 m pc ls st) rest (vp_Sl (fun r => r = v) a) (fun _ => False)) (kk : W p l e R s m args below meth c H locs cells slots Q (F0 m (pc + 3) ls (.long v :: rest))) : W p l e R s m args below meth c H locs cells slots Q (F0 m pc ls st) := vp_callSl hr (fun r h => by rw [h]; exact kk)
theorem rt_i {v u : Int32} {ar : Array Value} (hQ : Q = MQ below (vp_Si (fun r => r = u)) ar s 0 0 (fun _ => False)) (hv : v = u) (hx : p.tables.exec = Jvm.exec) (hb : c.code = cc) (hr : meth.sig.returnType = some .int) (hlocks : meth.locks = false) (hdg : decode cc pc = .ok (.ireturn, 1)) : W p l e R s m ar below meth c s.heap [] 0 0 Q (F0 m pc ls [.int v]) := by
  subst hQ
  exact W.iret hx hb hr (fun t ht _ => ⟨v, rfl, hv, ht⟩) (fun _ h => absurd h List.not_mem_nil) hdg
theorem rt_z {v u : Int32} {ar : Array Value} (hQ : Q = MQ below (vp_Si (fun r => r = u)) ar s 0 0 (fun _ => False)) (hv : v = u) (hz : narrow .boolean (.int v) = .int v) (hx : p.tables.exec = Jvm.exec) (hb : c.code = cc) (hr : meth.sig.returnType = some .boolean) (hlocks : meth.locks = false) (hdg : decode cc pc = .ok (.ireturn, 1)) : W p l e R s m ar below meth c s.heap [] 0 0 Q (F0 m pc ls [.int v]) := by
  subst hQ
  exact W.zret hx hb hr hz (fun t ht _ => ⟨v, rfl, hv, ht⟩) (fun _ h => absurd h List.not_mem_nil) hdg
theorem rt_l {v u : Int64} {ar : Array Value} (hQ : Q = MQ below (vp_Sl (fun r => r = u)) ar s 0 0 (fun _ => False)) (hv : v = u) (hx : p.tables.exec = Jvm.exec) (hb : c.code = cc) (hr : meth.sig.returnType = some .long) (hlocks : meth.locks = false) (hdg : decode cc pc = .ok (.lreturn, 1)) : W p l e R s m ar below meth c s.heap [] 0 0 Q (F0 m pc ls [.long v]) := by
  subst hQ
  exact W.lret hx hb hr (fun t ht _ => ⟨v, rfl, hv, ht⟩) (fun _ h => absurd h List.not_mem_nil) hdg
/-! writers -/
theorem wrV_run (S : CallFix p m c cc nL s args T0 own) {Qc : Array Value → State → Outcome → State → Prop} {free : Addr → Prop} (hM : Met l y (Cond.code y bytes maxL ret :: T0) rm (va_Pc (.ref b :: As) (Ww D wc tys H.size)) Qc 0 0 free) (cw : CallW R s args own C index y bytes maxL ret (Cond.code y bytes maxL ret :: T0) rm 0 0 n) (hK : va_K D cls tys s) (hNW : NW s) (hP : va_P D cls ws H) (hD : va_D A ws) (is : List Nat) (hs : is.filterMap (fun i => ws[i]?) = wc) (hC : is.map (fun i => ws[i]?) = wc.map some) (hnd : va_nd is = true) {ci q0 N : Nat} {T : u_T} {fs : List Value} (hc : cls[ci]? = some (C, T, N)) (he : ws[q0]? = some (b, .inr (ci, fs))) (hn : As.length = n) (hsize : ls.size = nL) (hst : st = As.reverse ++ .ref b :: rest) (hW : (rest.map fun v => v.category).sum ≤ 8) (hdg : decode cc pc = .ok (.invokevirtual index, 3)) (hcs : cells ≤ R.cells ∧ slots ≤ R.slots) :
    va_Run p l e R s m args below meth c H locs cells slots 0 0 (F0 m pc ls st) rest (Qc (Value.ref b :: As).toArray) free :=
  va_runV S hM cw ⟨Ww_blind, va_recv hK hP hc he, fun U hU hW => ⟨rfl, by rw [hU], by rw [hU]; exact hP.sub is hs, va_K.moved hW.alike hK, (hD.sub is hnd hC).weaken (fun _ _ _ _ => trivial), NW.warm hW hNW⟩⟩ rfl hn hsize hst (lv_room hW) hdg hcs
theorem wr_v {a : Array Value} {Rw : va_W → Prop} (hr : va_Run p l e R s m args below meth c H locs cells slots 0 0 (F0 m pc ls st) rest (va_Qv (fun _ : Unit => True) (Bw D tys (va_A wc H.size) Rw) (va_A wc H.size) a) (va_A wc H.size)) (hP : va_P D cls ws H) (hD : va_D A ws) (hS : va_S A s.heap H locs) (hA : ∀ q, s.heap.size ≤ q → A q) (isC isR : List Nat) (hC : isC.map (fun i => ws[i]?) = wc.map some) (hR : isR.map (fun i => ws[i]?) = wr.map some) (hn : va_nd isR = true) (hdis : ∀ i ∈ isR, i ∉ isC)
    (kk : ∀ (w1 : va_W) (H1 : Heap) (locs1 : List Loc), Rw w1 → va_P D cls (wr ++ w1) H1 → va_D A (wr ++ w1) → va_S A s.heap H1 locs1 → W p l e R s m args below meth c H1 locs1 cells slots Q (F0 m (pc + 3) ls rest)) : W p l e R s m args below meth c H locs cells slots Q (F0 m pc ls st) := by
  have hF := va_free (wc := wc) hD hS hA isC hC
  refine va_callv hr hS (fun q _ h => hF q h) hF (fun u t H1 locs1 ht hvm _ hB hz1 hk1 hS1 => ?_)
  obtain ⟨w1, hRw, hP1, hK1, hD1⟩ := hB
  rw [ht] at hP1
  obtain ⟨hP2, hD2⟩ := va_join hP hD isC isR hC hR hn hdis hk1 hF hP1 hD1
  exact kk w1 H1 locs1 hRw hP2 hD2 hS1
theorem wr_i {a : Array Value} {v : Int32} {Rw : va_W → Prop} (hr : va_Run p l e R s m args below meth c H locs cells slots 0 0 (F0 m pc ls st) rest (va_Qi (fun r (_ : Unit) => r = v) (Bw D tys (va_A wc H.size) Rw) (va_A wc H.size) a) (va_A wc H.size)) (hP : va_P D cls ws H) (hD : va_D A ws) (hS : va_S A s.heap H locs) (hA : ∀ q, s.heap.size ≤ q → A q) (isC isR : List Nat) (hC : isC.map (fun i => ws[i]?) = wc.map some) (hR : isR.map (fun i => ws[i]?) = wr.map some) (hn : va_nd isR = true) (hdis : ∀ i ∈ isR, i ∉ isC)
    (kk : ∀ (w1 : va_W) (H1 : Heap) (locs1 : List Loc), Rw w1 → va_P D cls (wr ++ w1) H1 → va_D A (wr ++ w1) → va_S A s.heap H1 locs1 → W p l e R s m args below meth c H1 locs1 cells slots Q (F0 m (pc + 3) ls (.int v :: rest))) : W p l e R s m args below meth c H locs cells slots Q (F0 m pc ls st) := by
  have hF := va_free (wc := wc) hD hS hA isC hC
  refine va_calli hr hS (fun q _ h => hF q h) hF (fun r u t H1 locs1 ht hvm hv hB hz1 hk1 hS1 => ?_)
  obtain ⟨w1, hRw, hP1, hK1, hD1⟩ := hB
  rw [ht] at hP1
  obtain ⟨hP2, hD2⟩ := va_join hP hD isC isR hC hR hn hdis hk1 hF hP1 hD1
  rw [hv]
  exact kk w1 H1 locs1 hRw hP2 hD2 hS1
theorem wr_l {a : Array Value} {v : Int64} {Rw : va_W → Prop} (hr : va_Run p l e R s m args below meth c H locs cells slots 0 0 (F0 m pc ls st) rest (va_Ql (fun r (_ : Unit) => r = v) (Bw D tys (va_A wc H.size) Rw) (va_A wc H.size) a) (va_A wc H.size)) (hP : va_P D cls ws H) (hD : va_D A ws) (hS : va_S A s.heap H locs) (hA : ∀ q, s.heap.size ≤ q → A q) (isC isR : List Nat) (hC : isC.map (fun i => ws[i]?) = wc.map some) (hR : isR.map (fun i => ws[i]?) = wr.map some) (hn : va_nd isR = true) (hdis : ∀ i ∈ isR, i ∉ isC)
    (kk : ∀ (w1 : va_W) (H1 : Heap) (locs1 : List Loc), Rw w1 → va_P D cls (wr ++ w1) H1 → va_D A (wr ++ w1) → va_S A s.heap H1 locs1 → W p l e R s m args below meth c H1 locs1 cells slots Q (F0 m (pc + 3) ls (.long v :: rest))) : W p l e R s m args below meth c H locs cells slots Q (F0 m pc ls st) := by
  have hF := va_free (wc := wc) hD hS hA isC hC
  refine va_calll hr hS (fun q _ h => hF q h) hF (fun r u t H1 locs1 ht hvm hv hB hz1 hk1 hS1 => ?_)
  obtain ⟨w1, hRw, hP1, hK1, hD1⟩ := hB
  rw [ht] at hP1
  obtain ⟨hP2, hD2⟩ := va_join hP hD isC isR hC hR hn hdis hk1 hF hP1 hD1
  rw [hv]
  exact kk w1 H1 locs1 hRw hP2 hD2 hS1
theorem rw_v {ar : Array Value} {Rw : va_W → Prop} (hQ : Q = MQ below (va_Qv (fun _ : Unit => True) (Bw D tys A Rw) A) ar s cells slots A) (hRw : Rw ws) (hP : va_P D cls ws H) (hD : va_D A ws) (hK : va_K D cls tys s) (hS : va_S A s.heap H locs) (hx : p.tables.exec = Jvm.exec) (hb : c.code = cc) (hr : meth.sig.returnType = none) (hlocks : meth.locks = false) (hdg : decode cc pc = .ok (.return_, 1)) : W p l e R s m ar below meth c H locs cells slots Q (F0 m pc ls []) := by
  subst hQ
  exact W.vret hx hb hr (fun t ht hW => ⟨⟨(), rfl, trivial, ws, hRw, by rw [ht]; exact hP, va_K.moved hW.alike hK, hD⟩, hS.F ht⟩) hS.2.2 hdg
theorem rw_i {ar : Array Value} {v u : Int32} {Rw : va_W → Prop} (hQ : Q = MQ below (va_Qi (fun r (_ : Unit) => r = u) (Bw D tys A Rw) A) ar s cells slots A) (hv : v = u) (hRw : Rw ws) (hP : va_P D cls ws H) (hD : va_D A ws) (hK : va_K D cls tys s) (hS : va_S A s.heap H locs) (hx : p.tables.exec = Jvm.exec) (hb : c.code = cc) (hr : meth.sig.returnType = some .int) (hlocks : meth.locks = false) (hdg : decode cc pc = .ok (.ireturn, 1)) : W p l e R s m ar below meth c H locs cells slots Q (F0 m pc ls [.int v]) := by
  subst hQ
  exact W.iret hx hb hr (fun t ht hW => ⟨⟨v, (), rfl, hv, ws, hRw, by rw [ht]; exact hP, va_K.moved hW.alike hK, hD⟩, hS.F ht⟩) hS.2.2 hdg
theorem rw_z {ar : Array Value} {v u : Int32} {Rw : va_W → Prop} (hQ : Q = MQ below (va_Qi (fun r (_ : Unit) => r = u) (Bw D tys A Rw) A) ar s cells slots A) (hv : v = u) (hz : narrow .boolean (.int v) = .int v) (hRw : Rw ws) (hP : va_P D cls ws H) (hD : va_D A ws) (hK : va_K D cls tys s) (hS : va_S A s.heap H locs) (hx : p.tables.exec = Jvm.exec) (hb : c.code = cc) (hr : meth.sig.returnType = some .boolean) (hlocks : meth.locks = false) (hdg : decode cc pc = .ok (.ireturn, 1)) : W p l e R s m ar below meth c H locs cells slots Q (F0 m pc ls [.int v]) := by
  subst hQ
  exact W.zret hx hb hr hz (fun t ht hW => ⟨⟨v, (), rfl, hv, ws, hRw, by rw [ht]; exact hP, va_K.moved hW.alike hK, hD⟩, hS.F ht⟩) hS.2.2 hdg
theorem rw_l {ar : Array Value} {v u : Int64} {Rw : va_W → Prop} (hQ : Q = MQ below (va_Ql (fun r (_ : Unit) => r = u) (Bw D tys A Rw) A) ar s cells slots A) (hv : v = u) (hRw : Rw ws) (hP : va_P D cls ws H) (hD : va_D A ws) (hK : va_K D cls tys s) (hS : va_S A s.heap H locs) (hx : p.tables.exec = Jvm.exec) (hb : c.code = cc) (hr : meth.sig.returnType = some .long) (hlocks : meth.locks = false) (hdg : decode cc pc = .ok (.lreturn, 1)) : W p l e R s m ar below meth c H locs cells slots Q (F0 m pc ls [.long v]) := by
  subst hQ
  exact W.lret hx hb hr (fun t ht hW => ⟨⟨v, (), rfl, hv, ws, hRw, by rw [ht]; exact hP, va_K.moved hW.alike hK, hD⟩, hS.F ht⟩) hS.2.2 hdg
end TOOLS
theorem nw_FM_9 {s : State} (h : NW s) : va_Nw (.methodLinkNest "FermionMaps" 9 ⟨"FermionMaps$Sum", "<init>", "()V"⟩ "FermionMaps") s := h ("FermionMaps", 9, ⟨"FermionMaps$Sum", "<init>", "()V"⟩, "FermionMaps") (List.mem_of_getElem? (i := 0) rfl)
theorem nw_FM_18 {s : State} (h : NW s) : va_Nw (.methodLinkNest "FermionMaps" 18 ⟨"FermionMaps$Wiring", "<init>", "()V"⟩ "FermionMaps") s := h ("FermionMaps", 18, ⟨"FermionMaps$Wiring", "<init>", "()V"⟩, "FermionMaps") (List.mem_of_getElem? (i := 1) rfl)
theorem nw_FM_25 {s : State} (h : NW s) : va_Nw (.methodLinkNest "FermionMaps" 25 ⟨"FermionMaps$Picture", "<init>", "()V"⟩ "FermionMaps") s := h ("FermionMaps", 25, ⟨"FermionMaps$Picture", "<init>", "()V"⟩, "FermionMaps") (List.mem_of_getElem? (i := 2) rfl)
theorem nw_Su_58 {s : State} (h : NW s) : va_Nw (.methodLinkNest "FermionMaps$Sum" 58 ⟨"FermionMaps", "isBeyond", "(I)Z"⟩ "FermionMaps") s := h ("FermionMaps$Sum", 58, ⟨"FermionMaps", "isBeyond", "(I)Z"⟩, "FermionMaps") (List.mem_of_getElem? (i := 3) rfl)
theorem nw_Su_43 {s : State} (h : NW s) : va_Nw (.methodLinkNest "FermionMaps$Sum" 43 ⟨"FermionMaps", "isOdd", "(I)Z"⟩ "FermionMaps") s := h ("FermionMaps$Sum", 43, ⟨"FermionMaps", "isOdd", "(I)Z"⟩, "FermionMaps") (List.mem_of_getElem? (i := 4) rfl)
theorem nw_Wi_45 {s : State} (h : NW s) : va_Nw (.methodLinkNest "FermionMaps$Wiring" 45 ⟨"FermionMaps", "has", "(II)Z"⟩ "FermionMaps") s := h ("FermionMaps$Wiring", 45, ⟨"FermionMaps", "has", "(II)Z"⟩, "FermionMaps") (List.mem_of_getElem? (i := 5) rfl)
theorem nw_Wi_49 {s : State} (h : NW s) : va_Nw (.methodLinkNest "FermionMaps$Wiring" 49 ⟨"FermionMaps", "isOdd", "(I)Z"⟩ "FermionMaps") s := h ("FermionMaps$Wiring", 49, ⟨"FermionMaps", "isOdd", "(I)Z"⟩, "FermionMaps") (List.mem_of_getElem? (i := 6) rfl)
theorem nw_Pi_102 {s : State} (h : NW s) : va_Nw (.methodLinkNest "FermionMaps$Picture" 102 ⟨"FermionMaps", "oddBelow", "(I)I"⟩ "FermionMaps") s := h ("FermionMaps$Picture", 102, ⟨"FermionMaps", "oddBelow", "(I)I"⟩, "FermionMaps") (List.mem_of_getElem? (i := 7) rfl)
theorem nw_Pi_108 {s : State} (h : NW s) : va_Nw (.methodLinkNest "FermionMaps$Picture" 108 ⟨"FermionMaps", "turnsAlways", "(II)Z"⟩ "FermionMaps") s := h ("FermionMaps$Picture", 108, ⟨"FermionMaps", "turnsAlways", "(II)Z"⟩, "FermionMaps") (List.mem_of_getElem? (i := 8) rfl)
theorem nw_Pi_112 {s : State} (h : NW s) : va_Nw (.methodLinkNest "FermionMaps$Picture" 112 ⟨"FermionMaps", "has", "(II)Z"⟩ "FermionMaps") s := h ("FermionMaps$Picture", 112, ⟨"FermionMaps", "has", "(II)Z"⟩, "FermionMaps") (List.mem_of_getElem? (i := 9) rfl)
theorem nw_Su_40 {s : State} (h : NW s) : va_Nw (.methodLinkNest "FermionMaps$Sum" 40 ⟨"FermionMaps", "oddBelow", "(I)I"⟩ "FermionMaps") s := h ("FermionMaps$Sum", 40, ⟨"FermionMaps", "oddBelow", "(I)I"⟩, "FermionMaps") (List.mem_of_getElem? (i := 10) rfl)
theorem nw_Su_47 {s : State} (h : NW s) : va_Nw (.methodLinkNest "FermionMaps$Sum" 47 ⟨"FermionMaps", "turnsAlways", "(II)Z"⟩ "FermionMaps") s := h ("FermionMaps$Sum", 47, ⟨"FermionMaps", "turnsAlways", "(II)Z"⟩, "FermionMaps") (List.mem_of_getElem? (i := 11) rfl)
end
section
theorem m_0 : (Jvm.Cond.initialized "FermionMapsLaw") ∈ T0 := T0_tb (i := 0) (by decide +kernel) (by decide +kernel)
theorem m_1 : (Jvm.Cond.initialized "FermionMaps") ∈ T0 := T0_tb (i := 1) (by decide +kernel) (by decide +kernel)
theorem m_2 : (Jvm.Cond.initialized "FermionMaps$Sum") ∈ T0 := T0_tb (i := 2) (by decide +kernel) (by decide +kernel)
theorem m_3 : (Jvm.Cond.initialized "FermionMaps$Wiring") ∈ T0 := T0_tb (i := 3) (by decide +kernel) (by decide +kernel)
theorem m_4 : (Jvm.Cond.initialized "FermionMaps$Picture") ∈ T0 := T0_tb (i := 4) (by decide +kernel) (by decide +kernel)
theorem m_5 : (Jvm.Cond.initialized "FermionMapsModel") ∈ T0 := T0_tb (i := 5) (by decide +kernel) (by decide +kernel)
theorem m_6 : (Jvm.Cond.initialized "java/lang/Math") ∈ T0 := T0_tb (i := 6) (by decide +kernel) (by decide +kernel)
theorem m_7 : (Jvm.Cond.initialized "java/lang/Integer") ∈ T0 := T0_tb (i := 7) (by decide +kernel) (by decide +kernel)
theorem m_8 : (Jvm.Cond.initialized "java/lang/Throwable") ∈ T0 := T0_tb (i := 8) (by decide +kernel) (by decide +kernel)
theorem m_9 : (Jvm.Cond.initialized "java/lang/Exception") ∈ T0 := T0_tb (i := 9) (by decide +kernel) (by decide +kernel)
theorem m_10 : (Jvm.Cond.initialized "java/lang/RuntimeException") ∈ T0 := T0_tb (i := 10) (by decide +kernel) (by decide +kernel)
theorem m_11 : (Jvm.Cond.initialized "java/util/NoSuchElementException") ∈ T0 := T0_tb (i := 11) (by decide +kernel) (by decide +kernel)
theorem m_12 : (Jvm.Cond.classLink "FermionMapsLaw" (8 : Nat) "FermionMaps") ∈ T0 := T0_tb (i := 12) (by decide +kernel) (by decide +kernel)
theorem m_13 : (Jvm.Cond.instantiable "FermionMaps" (3 : Nat)) ∈ T0 := T0_tb (i := 13) (by decide +kernel) (by decide +kernel)
theorem m_14 : (Jvm.Cond.methodLink "FermionMapsLaw" (22 : Nat) ({ cls := "FermionMaps", name := "<init>", desc := "()V" } : Jvm.MethodName)) ∈ T0 := T0_tb (i := 14) (by decide +kernel) (by decide +kernel)
theorem m_15 : (Jvm.Cond.instanceMethod ({ cls := "FermionMaps", name := "<init>", desc := "()V" } : Jvm.MethodName)) ∈ T0 := T0_tb (i := 15) (by decide +kernel) (by decide +kernel)
theorem m_16 : (Jvm.Cond.code ({ cls := "FermionMaps", name := "<init>", desc := "()V" } : Jvm.MethodName) prog_1_method_1_code (1 : Nat) (Option.none : Option Jvm.ClassFile.FieldType)) ∈ T0 := T0_tb (i := 16) (by decide +kernel) (by decide +kernel)
theorem m_17 : (Jvm.Cond.methodLink "FermionMaps" (1 : Nat) ({ cls := "java/lang/Object", name := "<init>", desc := "()V" } : Jvm.MethodName)) ∈ T0 := T0_tb (i := 17) (by decide +kernel) (by decide +kernel)
theorem m_18 : (Jvm.Cond.instanceMethod ({ cls := "java/lang/Object", name := "<init>", desc := "()V" } : Jvm.MethodName)) ∈ T0 := T0_tb (i := 18) (by decide +kernel) (by decide +kernel)
theorem m_19 : (Jvm.Cond.code ({ cls := "java/lang/Object", name := "<init>", desc := "()V" } : Jvm.MethodName) object_method_1_code (1 : Nat) (Option.none : Option Jvm.ClassFile.FieldType)) ∈ T0 := T0_tb (i := 19) (by decide +kernel) (by decide +kernel)
theorem m_20 : (Jvm.Cond.classLink "FermionMaps" (7 : Nat) "FermionMaps$Sum") ∈ T0 := T0_tb (i := 20) (by decide +kernel) (by decide +kernel)
theorem m_21 : (Jvm.Cond.instantiable "FermionMaps$Sum" (5 : Nat)) ∈ T0 := T0_tb (i := 21) (by decide +kernel) (by decide +kernel)
theorem m_23 : (Jvm.Cond.instanceMethod ({ cls := "FermionMaps$Sum", name := "<init>", desc := "()V" } : Jvm.MethodName)) ∈ T0 := T0_tb (i := 23) (by decide +kernel) (by decide +kernel)
theorem m_24 : (Jvm.Cond.code ({ cls := "FermionMaps$Sum", name := "<init>", desc := "()V" } : Jvm.MethodName) prog_3_method_1_code (1 : Nat) (Option.none : Option Jvm.ClassFile.FieldType)) ∈ T0 := T0_tb (i := 24) (by decide +kernel) (by decide +kernel)
theorem m_25 : (Jvm.Cond.methodLink "FermionMaps$Sum" (3 : Nat) ({ cls := "java/lang/Object", name := "<init>", desc := "()V" } : Jvm.MethodName)) ∈ T0 := T0_tb (i := 25) (by decide +kernel) (by decide +kernel)
theorem m_26 : (Jvm.Cond.fieldLink "FermionMaps$Sum" (9 : Nat) "FermionMaps$Sum" "keys" "[I") ∈ T0 := T0_tb (i := 26) (by decide +kernel) (by decide +kernel)
theorem m_27 : (Jvm.Cond.fieldLink "FermionMaps$Sum" (15 : Nat) "FermionMaps$Sum" "numbers" "[I") ∈ T0 := T0_tb (i := 27) (by decide +kernel) (by decide +kernel)
theorem m_28 : (Jvm.Cond.fieldLink "FermionMaps$Picture" (85 : Nat) "FermionMaps$Sum" "numbers" "[I") ∈ T0 := T0_tb (i := 28) (by decide +kernel) (by decide +kernel)
theorem m_29 : (Jvm.Cond.fieldLink "FermionMaps" (74 : Nat) "FermionMaps$Sum" "numbers" "[I") ∈ T0 := T0_tb (i := 29) (by decide +kernel) (by decide +kernel)
theorem m_30 : (Jvm.Cond.fieldLink "FermionMaps$Sum" (18 : Nat) "FermionMaps$Sum" "spareKeys" "[I") ∈ T0 := T0_tb (i := 30) (by decide +kernel) (by decide +kernel)
theorem m_31 : (Jvm.Cond.fieldLink "FermionMaps$Sum" (21 : Nat) "FermionMaps$Sum" "spareNumbers" "[I") ∈ T0 := T0_tb (i := 31) (by decide +kernel) (by decide +kernel)
theorem m_32 : (Jvm.Cond.fieldLink "FermionMaps$Sum" (24 : Nat) "FermionMaps$Sum" "count" "I") ∈ T0 := T0_tb (i := 32) (by decide +kernel) (by decide +kernel)
theorem m_33 : (Jvm.Cond.fieldLink "FermionMaps" (34 : Nat) "FermionMaps$Sum" "count" "I") ∈ T0 := T0_tb (i := 33) (by decide +kernel) (by decide +kernel)
theorem m_34 : (Jvm.Cond.fieldLink "FermionMaps$Picture" (66 : Nat) "FermionMaps$Sum" "count" "I") ∈ T0 := T0_tb (i := 34) (by decide +kernel) (by decide +kernel)
theorem m_46 : (Jvm.Cond.arrayClass Jvm.ClassFile.FieldType.int) ∈ T0 := T0_tb (i := 46) (by decide +kernel) (by decide +kernel)
theorem m_47 : (Jvm.Cond.classLink "FermionMaps" (16 : Nat) "FermionMaps$Wiring") ∈ T0 := T0_tb (i := 47) (by decide +kernel) (by decide +kernel)
theorem m_48 : (Jvm.Cond.instantiable "FermionMaps$Wiring" (7 : Nat)) ∈ T0 := T0_tb (i := 48) (by decide +kernel) (by decide +kernel)
theorem m_50 : (Jvm.Cond.instanceMethod ({ cls := "FermionMaps$Wiring", name := "<init>", desc := "()V" } : Jvm.MethodName)) ∈ T0 := T0_tb (i := 50) (by decide +kernel) (by decide +kernel)
theorem m_51 : (Jvm.Cond.code ({ cls := "FermionMaps$Wiring", name := "<init>", desc := "()V" } : Jvm.MethodName) prog_4_method_1_code (1 : Nat) (Option.none : Option Jvm.ClassFile.FieldType)) ∈ T0 := T0_tb (i := 51) (by decide +kernel) (by decide +kernel)
theorem m_52 : (Jvm.Cond.methodLink "FermionMaps$Wiring" (3 : Nat) ({ cls := "java/lang/Object", name := "<init>", desc := "()V" } : Jvm.MethodName)) ∈ T0 := T0_tb (i := 52) (by decide +kernel) (by decide +kernel)
theorem m_53 : (Jvm.Cond.fieldLink "FermionMaps$Wiring" (9 : Nat) "FermionMaps$Wiring" "told" "[I") ∈ T0 := T0_tb (i := 53) (by decide +kernel) (by decide +kernel)
theorem m_54 : (Jvm.Cond.fieldLink "FermionMaps" (90 : Nat) "FermionMaps$Wiring" "told" "[I") ∈ T0 := T0_tb (i := 54) (by decide +kernel) (by decide +kernel)
theorem m_55 : (Jvm.Cond.fieldLink "FermionMaps$Wiring" (15 : Nat) "FermionMaps$Wiring" "rows" "[I") ∈ T0 := T0_tb (i := 55) (by decide +kernel) (by decide +kernel)
theorem m_56 : (Jvm.Cond.fieldLink "FermionMaps$Picture" (71 : Nat) "FermionMaps$Wiring" "rows" "[I") ∈ T0 := T0_tb (i := 56) (by decide +kernel) (by decide +kernel)
theorem m_57 : (Jvm.Cond.fieldLink "FermionMaps" (93 : Nat) "FermionMaps$Wiring" "rows" "[I") ∈ T0 := T0_tb (i := 57) (by decide +kernel) (by decide +kernel)
theorem m_58 : (Jvm.Cond.fieldLink "FermionMaps$Wiring" (18 : Nat) "FermionMaps$Wiring" "back" "[I") ∈ T0 := T0_tb (i := 58) (by decide +kernel) (by decide +kernel)
theorem m_59 : (Jvm.Cond.fieldLink "FermionMaps$Picture" (115 : Nat) "FermionMaps$Wiring" "back" "[I") ∈ T0 := T0_tb (i := 59) (by decide +kernel) (by decide +kernel)
theorem m_60 : (Jvm.Cond.fieldLink "FermionMaps" (100 : Nat) "FermionMaps$Wiring" "back" "[I") ∈ T0 := T0_tb (i := 60) (by decide +kernel) (by decide +kernel)
theorem m_61 : (Jvm.Cond.fieldLink "FermionMaps$Wiring" (21 : Nat) "FermionMaps$Wiring" "spareBack" "[I") ∈ T0 := T0_tb (i := 61) (by decide +kernel) (by decide +kernel)
theorem m_62 : (Jvm.Cond.fieldLink "FermionMaps$Wiring" (24 : Nat) "FermionMaps$Wiring" "left" "[I") ∈ T0 := T0_tb (i := 62) (by decide +kernel) (by decide +kernel)
theorem m_63 : (Jvm.Cond.fieldLink "FermionMaps$Wiring" (27 : Nat) "FermionMaps$Wiring" "size" "I") ∈ T0 := T0_tb (i := 63) (by decide +kernel) (by decide +kernel)
theorem m_64 : (Jvm.Cond.fieldLink "FermionMaps$Picture" (49 : Nat) "FermionMaps$Wiring" "size" "I") ∈ T0 := T0_tb (i := 64) (by decide +kernel) (by decide +kernel)
theorem m_65 : (Jvm.Cond.fieldLink "FermionMaps" (53 : Nat) "FermionMaps$Wiring" "size" "I") ∈ T0 := T0_tb (i := 65) (by decide +kernel) (by decide +kernel)
theorem m_66 : (Jvm.Cond.fieldLink "FermionMaps$Wiring" (31 : Nat) "FermionMaps$Wiring" "kind" "I") ∈ T0 := T0_tb (i := 66) (by decide +kernel) (by decide +kernel)
theorem m_67 : (Jvm.Cond.fieldLink "FermionMaps" (87 : Nat) "FermionMaps$Wiring" "kind" "I") ∈ T0 := T0_tb (i := 67) (by decide +kernel) (by decide +kernel)
theorem m_83 : (Jvm.Cond.classLink "FermionMaps" (23 : Nat) "FermionMaps$Picture") ∈ T0 := T0_tb (i := 83) (by decide +kernel) (by decide +kernel)
theorem m_84 : (Jvm.Cond.instantiable "FermionMaps$Picture" (10 : Nat)) ∈ T0 := T0_tb (i := 84) (by decide +kernel) (by decide +kernel)
theorem m_86 : (Jvm.Cond.instanceMethod ({ cls := "FermionMaps$Picture", name := "<init>", desc := "()V" } : Jvm.MethodName)) ∈ T0 := T0_tb (i := 86) (by decide +kernel) (by decide +kernel)
theorem m_87 : (Jvm.Cond.code ({ cls := "FermionMaps$Picture", name := "<init>", desc := "()V" } : Jvm.MethodName) prog_2_method_1_code (1 : Nat) (Option.none : Option Jvm.ClassFile.FieldType)) ∈ T0 := T0_tb (i := 87) (by decide +kernel) (by decide +kernel)
theorem m_88 : (Jvm.Cond.methodLink "FermionMaps$Picture" (3 : Nat) ({ cls := "java/lang/Object", name := "<init>", desc := "()V" } : Jvm.MethodName)) ∈ T0 := T0_tb (i := 88) (by decide +kernel) (by decide +kernel)
theorem m_89 : (Jvm.Cond.fieldLink "FermionMaps$Picture" (9 : Nat) "FermionMaps$Picture" "flipsOf" "[I") ∈ T0 := T0_tb (i := 89) (by decide +kernel) (by decide +kernel)
theorem m_90 : (Jvm.Cond.fieldLink "FermionMaps$Picture" (15 : Nat) "FermionMaps$Picture" "termsAt" "[I") ∈ T0 := T0_tb (i := 90) (by decide +kernel) (by decide +kernel)
theorem m_91 : (Jvm.Cond.fieldLink "FermionMaps$Picture" (18 : Nat) "FermionMaps$Picture" "numbers" "[J") ∈ T0 := T0_tb (i := 91) (by decide +kernel) (by decide +kernel)
theorem m_92 : (Jvm.Cond.fieldLink "FermionMaps$Picture" (22 : Nat) "FermionMaps$Picture" "spread" "[I") ∈ T0 := T0_tb (i := 92) (by decide +kernel) (by decide +kernel)
theorem m_93 : (Jvm.Cond.fieldLink "FermionMaps$Picture" (25 : Nat) "FermionMaps$Picture" "drawn" "Z") ∈ T0 := T0_tb (i := 93) (by decide +kernel) (by decide +kernel)
theorem m_94 : (Jvm.Cond.fieldLink "FermionMaps" (38 : Nat) "FermionMaps$Picture" "drawn" "Z") ∈ T0 := T0_tb (i := 94) (by decide +kernel) (by decide +kernel)
theorem m_95 : (Jvm.Cond.fieldLink "FermionMaps$Picture" (29 : Nat) "FermionMaps$Picture" "held" "I") ∈ T0 := T0_tb (i := 95) (by decide +kernel) (by decide +kernel)
theorem m_96 : (Jvm.Cond.fieldLink "FermionMaps" (119 : Nat) "FermionMaps$Picture" "held" "I") ∈ T0 := T0_tb (i := 96) (by decide +kernel) (by decide +kernel)
theorem m_97 : (Jvm.Cond.fieldLink "FermionMaps$Picture" (33 : Nat) "FermionMaps$Picture" "terms" "I") ∈ T0 := T0_tb (i := 97) (by decide +kernel) (by decide +kernel)
theorem m_98 : (Jvm.Cond.fieldLink "FermionMaps" (107 : Nat) "FermionMaps$Picture" "terms" "I") ∈ T0 := T0_tb (i := 98) (by decide +kernel) (by decide +kernel)
theorem m_99 : (Jvm.Cond.fieldLink "FermionMaps$Picture" (36 : Nat) "FermionMaps$Picture" "widest" "I") ∈ T0 := T0_tb (i := 99) (by decide +kernel) (by decide +kernel)
theorem m_100 : (Jvm.Cond.fieldLink "FermionMaps" (129 : Nat) "FermionMaps$Picture" "widest" "I") ∈ T0 := T0_tb (i := 100) (by decide +kernel) (by decide +kernel)
theorem m_101 : (Jvm.Cond.fieldLink "FermionMaps$Picture" (39 : Nat) "FermionMaps$Picture" "halvings" "I") ∈ T0 := T0_tb (i := 101) (by decide +kernel) (by decide +kernel)
theorem m_102 : (Jvm.Cond.fieldLink "FermionMaps" (112 : Nat) "FermionMaps$Picture" "halvings" "I") ∈ T0 := T0_tb (i := 102) (by decide +kernel) (by decide +kernel)
theorem m_103 : (Jvm.Cond.fieldLink "FermionMaps$Picture" (42 : Nat) "FermionMaps$Picture" "foundSigns" "I") ∈ T0 := T0_tb (i := 103) (by decide +kernel) (by decide +kernel)
theorem m_104 : (Jvm.Cond.fieldLink "FermionMaps" (122 : Nat) "FermionMaps$Picture" "foundSigns" "I") ∈ T0 := T0_tb (i := 104) (by decide +kernel) (by decide +kernel)
theorem m_126 : (Jvm.Cond.arrayClass Jvm.ClassFile.FieldType.long) ∈ T0 := T0_tb (i := 126) (by decide +kernel) (by decide +kernel)
theorem m_127 : (Jvm.Cond.methodLink "FermionMaps" (30 : Nat) ({ cls := "FermionMaps$Wiring", name := "reset", desc := "(I)V" } : Jvm.MethodName)) ∈ T0 := T0_tb (i := 127) (by decide +kernel) (by decide +kernel)
theorem m_128 : (Jvm.Cond.instanceMethod ({ cls := "FermionMaps$Wiring", name := "reset", desc := "(I)V" } : Jvm.MethodName)) ∈ T0 := T0_tb (i := 128) (by decide +kernel) (by decide +kernel)
theorem m_129 : (Jvm.Cond.selects "FermionMaps$Wiring" ({ cls := "FermionMaps$Wiring", name := "reset", desc := "(I)V" } : Jvm.MethodName) ({ cls := "FermionMaps$Wiring", name := "reset", desc := "(I)V" } : Jvm.MethodName)) ∈ T0 := T0_tb (i := 129) (by decide +kernel) (by decide +kernel)
theorem m_130 : (Jvm.Cond.code ({ cls := "FermionMaps$Wiring", name := "reset", desc := "(I)V" } : Jvm.MethodName) prog_4_method_2_code (3 : Nat) (Option.none : Option Jvm.ClassFile.FieldType)) ∈ T0 := T0_tb (i := 130) (by decide +kernel) (by decide +kernel)
theorem m_131 : (Jvm.Cond.fieldLink "FermionMaps" (10 : Nat) "FermionMaps" "sum" "LFermionMaps$Sum;") ∈ T0 := T0_tb (i := 131) (by decide +kernel) (by decide +kernel)
theorem m_132 : (Jvm.Cond.fieldLink "FermionMaps" (19 : Nat) "FermionMaps" "wiring" "LFermionMaps$Wiring;") ∈ T0 := T0_tb (i := 132) (by decide +kernel) (by decide +kernel)
theorem m_133 : (Jvm.Cond.fieldLink "FermionMaps" (26 : Nat) "FermionMaps" "picture" "LFermionMaps$Picture;") ∈ T0 := T0_tb (i := 133) (by decide +kernel) (by decide +kernel)
theorem m_141 : (Jvm.Cond.methodLink "FermionMapsLaw" (26 : Nat) ({ cls := "FermionMaps", name := "begin", desc := "(I)Z" } : Jvm.MethodName)) ∈ T0 := T0_tb (i := 141) (by decide +kernel) (by decide +kernel)
theorem m_142 : (Jvm.Cond.instanceMethod ({ cls := "FermionMaps", name := "begin", desc := "(I)Z" } : Jvm.MethodName)) ∈ T0 := T0_tb (i := 142) (by decide +kernel) (by decide +kernel)
theorem m_143 : (Jvm.Cond.selects "FermionMaps" ({ cls := "FermionMaps", name := "begin", desc := "(I)Z" } : Jvm.MethodName) ({ cls := "FermionMaps", name := "begin", desc := "(I)Z" } : Jvm.MethodName)) ∈ T0 := T0_tb (i := 143) (by decide +kernel) (by decide +kernel)
theorem m_144 : (Jvm.Cond.code ({ cls := "FermionMaps", name := "begin", desc := "(I)Z" } : Jvm.MethodName) prog_1_method_2_code (2 : Nat) (Option.some Jvm.ClassFile.FieldType.boolean)) ∈ T0 := T0_tb (i := 144) (by decide +kernel) (by decide +kernel)
theorem m_145 : (Jvm.Cond.methodLink "FermionMapsLaw" (31 : Nat) ({ cls := "FermionMaps", name := "add", desc := "(III)I" } : Jvm.MethodName)) ∈ T0 := T0_tb (i := 145) (by decide +kernel) (by decide +kernel)
theorem m_146 : (Jvm.Cond.instanceMethod ({ cls := "FermionMaps", name := "add", desc := "(III)I" } : Jvm.MethodName)) ∈ T0 := T0_tb (i := 146) (by decide +kernel) (by decide +kernel)
theorem m_147 : (Jvm.Cond.selects "FermionMaps" ({ cls := "FermionMaps", name := "add", desc := "(III)I" } : Jvm.MethodName) ({ cls := "FermionMaps", name := "add", desc := "(III)I" } : Jvm.MethodName)) ∈ T0 := T0_tb (i := 147) (by decide +kernel) (by decide +kernel)
theorem m_148 : (Jvm.Cond.code ({ cls := "FermionMaps", name := "add", desc := "(III)I" } : Jvm.MethodName) prog_1_method_3_code (4 : Nat) (Option.some Jvm.ClassFile.FieldType.int)) ∈ T0 := T0_tb (i := 148) (by decide +kernel) (by decide +kernel)
theorem m_149 : (Jvm.Cond.methodLink "FermionMaps" (42 : Nat) ({ cls := "FermionMaps", name := "isSet", desc := "(I)Z" } : Jvm.MethodName)) ∈ T0 := T0_tb (i := 149) (by decide +kernel) (by decide +kernel)
theorem m_151 : (Jvm.Cond.instanceMethod ({ cls := "FermionMaps", name := "isSet", desc := "(I)Z" } : Jvm.MethodName)) ∈ T0 := T0_tb (i := 151) (by decide +kernel) (by decide +kernel)
theorem m_152 : (Jvm.Cond.code ({ cls := "FermionMaps", name := "isSet", desc := "(I)Z" } : Jvm.MethodName) prog_1_method_14_code (2 : Nat) (Option.some Jvm.ClassFile.FieldType.boolean)) ∈ T0 := T0_tb (i := 152) (by decide +kernel) (by decide +kernel)
theorem m_153 : (Jvm.Cond.methodLink "FermionMaps" (46 : Nat) ({ cls := "FermionMaps", name := "isBeyond", desc := "(I)Z" } : Jvm.MethodName)) ∈ T0 := T0_tb (i := 153) (by decide +kernel) (by decide +kernel)
theorem m_154 : (Jvm.Cond.static ({ cls := "FermionMaps", name := "isBeyond", desc := "(I)Z" } : Jvm.MethodName)) ∈ T0 := T0_tb (i := 154) (by decide +kernel) (by decide +kernel)
theorem m_155 : (Jvm.Cond.code ({ cls := "FermionMaps", name := "isBeyond", desc := "(I)Z" } : Jvm.MethodName) prog_1_method_15_code (1 : Nat) (Option.some Jvm.ClassFile.FieldType.boolean)) ∈ T0 := T0_tb (i := 155) (by decide +kernel) (by decide +kernel)
theorem m_156 : (Jvm.Cond.constant "FermionMaps" (136 : Nat) (-1000000 : Int32)) ∈ T0 := T0_tb (i := 156) (by decide +kernel) (by decide +kernel)
theorem m_157 : (Jvm.Cond.constant "FermionMaps" (137 : Nat) (1000000 : Int32)) ∈ T0 := T0_tb (i := 157) (by decide +kernel) (by decide +kernel)
theorem m_158 : (Jvm.Cond.methodLink "FermionMaps" (49 : Nat) ({ cls := "FermionMaps$Sum", name := "take", desc := "(II)Z" } : Jvm.MethodName)) ∈ T0 := T0_tb (i := 158) (by decide +kernel) (by decide +kernel)
theorem m_159 : (Jvm.Cond.instanceMethod ({ cls := "FermionMaps$Sum", name := "take", desc := "(II)Z" } : Jvm.MethodName)) ∈ T0 := T0_tb (i := 159) (by decide +kernel) (by decide +kernel)
theorem m_160 : (Jvm.Cond.selects "FermionMaps$Sum" ({ cls := "FermionMaps$Sum", name := "take", desc := "(II)Z" } : Jvm.MethodName) ({ cls := "FermionMaps$Sum", name := "take", desc := "(II)Z" } : Jvm.MethodName)) ∈ T0 := T0_tb (i := 160) (by decide +kernel) (by decide +kernel)
theorem m_161 : (Jvm.Cond.code ({ cls := "FermionMaps$Sum", name := "take", desc := "(II)Z" } : Jvm.MethodName) prog_3_method_6_code (4 : Nat) (Option.some Jvm.ClassFile.FieldType.boolean)) ∈ T0 := T0_tb (i := 161) (by decide +kernel) (by decide +kernel)
theorem m_162 : (Jvm.Cond.methodLink "FermionMaps$Sum" (51 : Nat) ({ cls := "FermionMaps$Sum", name := "change", desc := "(II)Z" } : Jvm.MethodName)) ∈ T0 := T0_tb (i := 162) (by decide +kernel) (by decide +kernel)
theorem m_163 : (Jvm.Cond.instanceMethod ({ cls := "FermionMaps$Sum", name := "change", desc := "(II)Z" } : Jvm.MethodName)) ∈ T0 := T0_tb (i := 163) (by decide +kernel) (by decide +kernel)
theorem m_164 : (Jvm.Cond.selects "FermionMaps$Sum" ({ cls := "FermionMaps$Sum", name := "change", desc := "(II)Z" } : Jvm.MethodName) ({ cls := "FermionMaps$Sum", name := "change", desc := "(II)Z" } : Jvm.MethodName)) ∈ T0 := T0_tb (i := 164) (by decide +kernel) (by decide +kernel)
theorem m_165 : (Jvm.Cond.code ({ cls := "FermionMaps$Sum", name := "change", desc := "(II)Z" } : Jvm.MethodName) prog_3_method_7_code (3 : Nat) (Option.some Jvm.ClassFile.FieldType.boolean)) ∈ T0 := T0_tb (i := 165) (by decide +kernel) (by decide +kernel)
theorem m_167 : (Jvm.Cond.methodLink "FermionMaps$Sum" (61 : Nat) ({ cls := "FermionMaps$Sum", name := "strike", desc := "(I)V" } : Jvm.MethodName)) ∈ T0 := T0_tb (i := 167) (by decide +kernel) (by decide +kernel)
theorem m_168 : (Jvm.Cond.instanceMethod ({ cls := "FermionMaps$Sum", name := "strike", desc := "(I)V" } : Jvm.MethodName)) ∈ T0 := T0_tb (i := 168) (by decide +kernel) (by decide +kernel)
theorem m_169 : (Jvm.Cond.selects "FermionMaps$Sum" ({ cls := "FermionMaps$Sum", name := "strike", desc := "(I)V" } : Jvm.MethodName) ({ cls := "FermionMaps$Sum", name := "strike", desc := "(I)V" } : Jvm.MethodName)) ∈ T0 := T0_tb (i := 169) (by decide +kernel) (by decide +kernel)
theorem m_170 : (Jvm.Cond.code ({ cls := "FermionMaps$Sum", name := "strike", desc := "(I)V" } : Jvm.MethodName) prog_3_method_9_code (3 : Nat) (Option.none : Option Jvm.ClassFile.FieldType)) ∈ T0 := T0_tb (i := 170) (by decide +kernel) (by decide +kernel)
theorem m_171 : (Jvm.Cond.methodLink "FermionMaps$Sum" (54 : Nat) ({ cls := "FermionMaps$Sum", name := "insert", desc := "(III)V" } : Jvm.MethodName)) ∈ T0 := T0_tb (i := 171) (by decide +kernel) (by decide +kernel)
theorem m_172 : (Jvm.Cond.instanceMethod ({ cls := "FermionMaps$Sum", name := "insert", desc := "(III)V" } : Jvm.MethodName)) ∈ T0 := T0_tb (i := 172) (by decide +kernel) (by decide +kernel)
theorem m_173 : (Jvm.Cond.selects "FermionMaps$Sum" ({ cls := "FermionMaps$Sum", name := "insert", desc := "(III)V" } : Jvm.MethodName) ({ cls := "FermionMaps$Sum", name := "insert", desc := "(III)V" } : Jvm.MethodName)) ∈ T0 := T0_tb (i := 173) (by decide +kernel) (by decide +kernel)
theorem m_174 : (Jvm.Cond.code ({ cls := "FermionMaps$Sum", name := "insert", desc := "(III)V" } : Jvm.MethodName) prog_3_method_8_code (5 : Nat) (Option.none : Option Jvm.ClassFile.FieldType)) ∈ T0 := T0_tb (i := 174) (by decide +kernel) (by decide +kernel)
theorem m_175 : (Jvm.Cond.methodLink "FermionMapsLaw" (36 : Nat) ({ cls := "FermionMaps", name := "ladder", desc := "(IZZ)I" } : Jvm.MethodName)) ∈ T0 := T0_tb (i := 175) (by decide +kernel) (by decide +kernel)
theorem m_176 : (Jvm.Cond.instanceMethod ({ cls := "FermionMaps", name := "ladder", desc := "(IZZ)I" } : Jvm.MethodName)) ∈ T0 := T0_tb (i := 176) (by decide +kernel) (by decide +kernel)
theorem m_177 : (Jvm.Cond.selects "FermionMaps" ({ cls := "FermionMaps", name := "ladder", desc := "(IZZ)I" } : Jvm.MethodName) ({ cls := "FermionMaps", name := "ladder", desc := "(IZZ)I" } : Jvm.MethodName)) ∈ T0 := T0_tb (i := 177) (by decide +kernel) (by decide +kernel)
theorem m_178 : (Jvm.Cond.code ({ cls := "FermionMaps", name := "ladder", desc := "(IZZ)I" } : Jvm.MethodName) prog_1_method_4_code (4 : Nat) (Option.some Jvm.ClassFile.FieldType.int)) ∈ T0 := T0_tb (i := 178) (by decide +kernel) (by decide +kernel)
theorem m_179 : (Jvm.Cond.methodLink "FermionMaps" (56 : Nat) ({ cls := "FermionMaps$Sum", name := "climb", desc := "(IZZ)Z" } : Jvm.MethodName)) ∈ T0 := T0_tb (i := 179) (by decide +kernel) (by decide +kernel)
theorem m_180 : (Jvm.Cond.instanceMethod ({ cls := "FermionMaps$Sum", name := "climb", desc := "(IZZ)Z" } : Jvm.MethodName)) ∈ T0 := T0_tb (i := 180) (by decide +kernel) (by decide +kernel)
theorem m_181 : (Jvm.Cond.selects "FermionMaps$Sum" ({ cls := "FermionMaps$Sum", name := "climb", desc := "(IZZ)Z" } : Jvm.MethodName) ({ cls := "FermionMaps$Sum", name := "climb", desc := "(IZZ)Z" } : Jvm.MethodName)) ∈ T0 := T0_tb (i := 181) (by decide +kernel) (by decide +kernel)
theorem m_182 : (Jvm.Cond.code ({ cls := "FermionMaps$Sum", name := "climb", desc := "(IZZ)Z" } : Jvm.MethodName) prog_3_method_10_code (9 : Nat) (Option.some Jvm.ClassFile.FieldType.boolean)) ∈ T0 := T0_tb (i := 182) (by decide +kernel) (by decide +kernel)
theorem m_183 : (Jvm.Cond.methodLink "FermionMaps$Sum" (65 : Nat) ({ cls := "FermionMaps$Sum", name := "merge", desc := "(IIII)Z" } : Jvm.MethodName)) ∈ T0 := T0_tb (i := 183) (by decide +kernel) (by decide +kernel)
theorem m_184 : (Jvm.Cond.instanceMethod ({ cls := "FermionMaps$Sum", name := "merge", desc := "(IIII)Z" } : Jvm.MethodName)) ∈ T0 := T0_tb (i := 184) (by decide +kernel) (by decide +kernel)
theorem m_185 : (Jvm.Cond.selects "FermionMaps$Sum" ({ cls := "FermionMaps$Sum", name := "merge", desc := "(IIII)Z" } : Jvm.MethodName) ({ cls := "FermionMaps$Sum", name := "merge", desc := "(IIII)Z" } : Jvm.MethodName)) ∈ T0 := T0_tb (i := 185) (by decide +kernel) (by decide +kernel)
theorem m_186 : (Jvm.Cond.code ({ cls := "FermionMaps$Sum", name := "merge", desc := "(IIII)Z" } : Jvm.MethodName) prog_3_method_11_code (13 : Nat) (Option.some Jvm.ClassFile.FieldType.boolean)) ∈ T0 := T0_tb (i := 186) (by decide +kernel) (by decide +kernel)
theorem m_187 : (Jvm.Cond.methodLink "FermionMaps$Sum" (70 : Nat) ({ cls := "FermionMaps$Sum", name := "seek", desc := "(III)I" } : Jvm.MethodName)) ∈ T0 := T0_tb (i := 187) (by decide +kernel) (by decide +kernel)
theorem m_188 : (Jvm.Cond.instanceMethod ({ cls := "FermionMaps$Sum", name := "seek", desc := "(III)I" } : Jvm.MethodName)) ∈ T0 := T0_tb (i := 188) (by decide +kernel) (by decide +kernel)
theorem m_189 : (Jvm.Cond.selects "FermionMaps$Sum" ({ cls := "FermionMaps$Sum", name := "seek", desc := "(III)I" } : Jvm.MethodName) ({ cls := "FermionMaps$Sum", name := "seek", desc := "(III)I" } : Jvm.MethodName)) ∈ T0 := T0_tb (i := 189) (by decide +kernel) (by decide +kernel)
theorem m_190 : (Jvm.Cond.code ({ cls := "FermionMaps$Sum", name := "seek", desc := "(III)I" } : Jvm.MethodName) prog_3_method_12_code (5 : Nat) (Option.some Jvm.ClassFile.FieldType.int)) ∈ T0 := T0_tb (i := 190) (by decide +kernel) (by decide +kernel)
theorem m_191 : (Jvm.Cond.constant "FermionMaps$Sum" (74 : Nat) (2147483647 : Int32)) ∈ T0 := T0_tb (i := 191) (by decide +kernel) (by decide +kernel)
theorem m_192 : (Jvm.Cond.methodLink "FermionMaps$Sum" (75 : Nat) ({ cls := "java/lang/Math", name := "min", desc := "(II)I" } : Jvm.MethodName)) ∈ T0 := T0_tb (i := 192) (by decide +kernel) (by decide +kernel)
theorem m_193 : (Jvm.Cond.static ({ cls := "java/lang/Math", name := "min", desc := "(II)I" } : Jvm.MethodName)) ∈ T0 := T0_tb (i := 193) (by decide +kernel) (by decide +kernel)
theorem m_194 : (Jvm.Cond.code ({ cls := "java/lang/Math", name := "min", desc := "(II)I" } : Jvm.MethodName) prog_9_method_69_code (2 : Nat) (Option.some Jvm.ClassFile.FieldType.int)) ∈ T0 := T0_tb (i := 194) (by decide +kernel) (by decide +kernel)
theorem m_195 : (Jvm.Cond.methodLink "FermionMaps$Sum" (81 : Nat) ({ cls := "FermionMaps$Sum", name := "signed", desc := "(II)I" } : Jvm.MethodName)) ∈ T0 := T0_tb (i := 195) (by decide +kernel) (by decide +kernel)
theorem m_196 : (Jvm.Cond.instanceMethod ({ cls := "FermionMaps$Sum", name := "signed", desc := "(II)I" } : Jvm.MethodName)) ∈ T0 := T0_tb (i := 196) (by decide +kernel) (by decide +kernel)
theorem m_197 : (Jvm.Cond.selects "FermionMaps$Sum" ({ cls := "FermionMaps$Sum", name := "signed", desc := "(II)I" } : Jvm.MethodName) ({ cls := "FermionMaps$Sum", name := "signed", desc := "(II)I" } : Jvm.MethodName)) ∈ T0 := T0_tb (i := 197) (by decide +kernel) (by decide +kernel)
theorem m_198 : (Jvm.Cond.code ({ cls := "FermionMaps$Sum", name := "signed", desc := "(II)I" } : Jvm.MethodName) prog_3_method_13_code (3 : Nat) (Option.some Jvm.ClassFile.FieldType.int)) ∈ T0 := T0_tb (i := 198) (by decide +kernel) (by decide +kernel)
theorem m_200 : (Jvm.Cond.static ({ cls := "FermionMaps", name := "isOdd", desc := "(I)Z" } : Jvm.MethodName)) ∈ T0 := T0_tb (i := 200) (by decide +kernel) (by decide +kernel)
theorem m_201 : (Jvm.Cond.code ({ cls := "FermionMaps", name := "isOdd", desc := "(I)Z" } : Jvm.MethodName) prog_1_method_17_code (1 : Nat) (Option.some Jvm.ClassFile.FieldType.boolean)) ∈ T0 := T0_tb (i := 201) (by decide +kernel) (by decide +kernel)
theorem m_202 : (Jvm.Cond.methodLink "FermionMaps" (138 : Nat) ({ cls := "java/lang/Integer", name := "bitCount", desc := "(I)I" } : Jvm.MethodName)) ∈ T0 := T0_tb (i := 202) (by decide +kernel) (by decide +kernel)
theorem m_203 : (Jvm.Cond.static ({ cls := "java/lang/Integer", name := "bitCount", desc := "(I)I" } : Jvm.MethodName)) ∈ T0 := T0_tb (i := 203) (by decide +kernel) (by decide +kernel)
theorem m_204 : (Jvm.Cond.code ({ cls := "java/lang/Integer", name := "bitCount", desc := "(I)I" } : Jvm.MethodName) prog_8_method_49_code (1 : Nat) (Option.some Jvm.ClassFile.FieldType.int)) ∈ T0 := T0_tb (i := 204) (by decide +kernel) (by decide +kernel)
theorem m_205 : (Jvm.Cond.constant "java/lang/Integer" (265 : Nat) (1431655765 : Int32)) ∈ T0 := T0_tb (i := 205) (by decide +kernel) (by decide +kernel)
theorem m_206 : (Jvm.Cond.constant "java/lang/Integer" (266 : Nat) (858993459 : Int32)) ∈ T0 := T0_tb (i := 206) (by decide +kernel) (by decide +kernel)
theorem m_207 : (Jvm.Cond.constant "java/lang/Integer" (267 : Nat) (252645135 : Int32)) ∈ T0 := T0_tb (i := 207) (by decide +kernel) (by decide +kernel)
theorem m_208 : (Jvm.Cond.methodLink "FermionMaps$Sum" (84 : Nat) ({ cls := "FermionMaps$Sum", name := "useSpare", desc := "(I)V" } : Jvm.MethodName)) ∈ T0 := T0_tb (i := 208) (by decide +kernel) (by decide +kernel)
theorem m_209 : (Jvm.Cond.instanceMethod ({ cls := "FermionMaps$Sum", name := "useSpare", desc := "(I)V" } : Jvm.MethodName)) ∈ T0 := T0_tb (i := 209) (by decide +kernel) (by decide +kernel)
theorem m_210 : (Jvm.Cond.selects "FermionMaps$Sum" ({ cls := "FermionMaps$Sum", name := "useSpare", desc := "(I)V" } : Jvm.MethodName) ({ cls := "FermionMaps$Sum", name := "useSpare", desc := "(I)V" } : Jvm.MethodName)) ∈ T0 := T0_tb (i := 210) (by decide +kernel) (by decide +kernel)
theorem m_211 : (Jvm.Cond.code ({ cls := "FermionMaps$Sum", name := "useSpare", desc := "(I)V" } : Jvm.MethodName) prog_3_method_14_code (4 : Nat) (Option.none : Option Jvm.ClassFile.FieldType)) ∈ T0 := T0_tb (i := 211) (by decide +kernel) (by decide +kernel)
theorem m_212 : (Jvm.Cond.constant "FermionMaps$Sum" (69 : Nat) (65280 : Int32)) ∈ T0 := T0_tb (i := 212) (by decide +kernel) (by decide +kernel)
theorem m_213 : (Jvm.Cond.methodLink "FermionMapsLaw" (41 : Nat) ({ cls := "FermionMaps", name := "clear", desc := "()V" } : Jvm.MethodName)) ∈ T0 := T0_tb (i := 213) (by decide +kernel) (by decide +kernel)
theorem m_214 : (Jvm.Cond.instanceMethod ({ cls := "FermionMaps", name := "clear", desc := "()V" } : Jvm.MethodName)) ∈ T0 := T0_tb (i := 214) (by decide +kernel) (by decide +kernel)
theorem m_215 : (Jvm.Cond.selects "FermionMaps" ({ cls := "FermionMaps", name := "clear", desc := "()V" } : Jvm.MethodName) ({ cls := "FermionMaps", name := "clear", desc := "()V" } : Jvm.MethodName)) ∈ T0 := T0_tb (i := 215) (by decide +kernel) (by decide +kernel)
theorem m_216 : (Jvm.Cond.code ({ cls := "FermionMaps", name := "clear", desc := "()V" } : Jvm.MethodName) prog_1_method_5_code (1 : Nat) (Option.none : Option Jvm.ClassFile.FieldType)) ∈ T0 := T0_tb (i := 216) (by decide +kernel) (by decide +kernel)
theorem m_217 : (Jvm.Cond.methodLink "FermionMapsLaw" (58 : Nat) ({ cls := "FermionMaps", name := "way", desc := "(I)Z" } : Jvm.MethodName)) ∈ T0 := T0_tb (i := 217) (by decide +kernel) (by decide +kernel)
theorem m_218 : (Jvm.Cond.instanceMethod ({ cls := "FermionMaps", name := "way", desc := "(I)Z" } : Jvm.MethodName)) ∈ T0 := T0_tb (i := 218) (by decide +kernel) (by decide +kernel)
theorem m_219 : (Jvm.Cond.selects "FermionMaps" ({ cls := "FermionMaps", name := "way", desc := "(I)Z" } : Jvm.MethodName) ({ cls := "FermionMaps", name := "way", desc := "(I)Z" } : Jvm.MethodName)) ∈ T0 := T0_tb (i := 219) (by decide +kernel) (by decide +kernel)
theorem m_220 : (Jvm.Cond.code ({ cls := "FermionMaps", name := "way", desc := "(I)Z" } : Jvm.MethodName) prog_1_method_8_code (2 : Nat) (Option.some Jvm.ClassFile.FieldType.boolean)) ∈ T0 := T0_tb (i := 220) (by decide +kernel) (by decide +kernel)
theorem m_221 : (Jvm.Cond.methodLink "FermionMaps" (84 : Nat) ({ cls := "FermionMaps$Wiring", name := "choose", desc := "(I)Z" } : Jvm.MethodName)) ∈ T0 := T0_tb (i := 221) (by decide +kernel) (by decide +kernel)
theorem m_222 : (Jvm.Cond.instanceMethod ({ cls := "FermionMaps$Wiring", name := "choose", desc := "(I)Z" } : Jvm.MethodName)) ∈ T0 := T0_tb (i := 222) (by decide +kernel) (by decide +kernel)
theorem m_223 : (Jvm.Cond.selects "FermionMaps$Wiring" ({ cls := "FermionMaps$Wiring", name := "choose", desc := "(I)Z" } : Jvm.MethodName) ({ cls := "FermionMaps$Wiring", name := "choose", desc := "(I)Z" } : Jvm.MethodName)) ∈ T0 := T0_tb (i := 223) (by decide +kernel) (by decide +kernel)
theorem m_224 : (Jvm.Cond.code ({ cls := "FermionMaps$Wiring", name := "choose", desc := "(I)Z" } : Jvm.MethodName) prog_4_method_3_code (4 : Nat) (Option.some Jvm.ClassFile.FieldType.boolean)) ∈ T0 := T0_tb (i := 224) (by decide +kernel) (by decide +kernel)
theorem m_225 : (Jvm.Cond.methodLink "FermionMaps$Wiring" (34 : Nat) ({ cls := "FermionMaps$Wiring", name := "turnRound", desc := "(I)Z" } : Jvm.MethodName)) ∈ T0 := T0_tb (i := 225) (by decide +kernel) (by decide +kernel)
theorem m_226 : (Jvm.Cond.instanceMethod ({ cls := "FermionMaps$Wiring", name := "turnRound", desc := "(I)Z" } : Jvm.MethodName)) ∈ T0 := T0_tb (i := 226) (by decide +kernel) (by decide +kernel)
theorem m_227 : (Jvm.Cond.selects "FermionMaps$Wiring" ({ cls := "FermionMaps$Wiring", name := "turnRound", desc := "(I)Z" } : Jvm.MethodName) ({ cls := "FermionMaps$Wiring", name := "turnRound", desc := "(I)Z" } : Jvm.MethodName)) ∈ T0 := T0_tb (i := 227) (by decide +kernel) (by decide +kernel)
theorem m_228 : (Jvm.Cond.code ({ cls := "FermionMaps$Wiring", name := "turnRound", desc := "(I)Z" } : Jvm.MethodName) prog_4_method_5_code (4 : Nat) (Option.some Jvm.ClassFile.FieldType.boolean)) ∈ T0 := T0_tb (i := 228) (by decide +kernel) (by decide +kernel)
theorem m_229 : (Jvm.Cond.methodLink "FermionMaps$Wiring" (38 : Nat) ({ cls := "FermionMaps$Wiring", name := "rowOf", desc := "(II)I" } : Jvm.MethodName)) ∈ T0 := T0_tb (i := 229) (by decide +kernel) (by decide +kernel)
theorem m_230 : (Jvm.Cond.instanceMethod ({ cls := "FermionMaps$Wiring", name := "rowOf", desc := "(II)I" } : Jvm.MethodName)) ∈ T0 := T0_tb (i := 230) (by decide +kernel) (by decide +kernel)
theorem m_231 : (Jvm.Cond.selects "FermionMaps$Wiring" ({ cls := "FermionMaps$Wiring", name := "rowOf", desc := "(II)I" } : Jvm.MethodName) ({ cls := "FermionMaps$Wiring", name := "rowOf", desc := "(II)I" } : Jvm.MethodName)) ∈ T0 := T0_tb (i := 231) (by decide +kernel) (by decide +kernel)
theorem m_232 : (Jvm.Cond.code ({ cls := "FermionMaps$Wiring", name := "rowOf", desc := "(II)I" } : Jvm.MethodName) prog_4_method_4_code (4 : Nat) (Option.some Jvm.ClassFile.FieldType.int)) ∈ T0 := T0_tb (i := 232) (by decide +kernel) (by decide +kernel)
theorem m_233 : (Jvm.Cond.methodLink "FermionMaps$Wiring" (42 : Nat) ({ cls := "FermionMaps$Wiring", name := "bringUp", desc := "(I)Z" } : Jvm.MethodName)) ∈ T0 := T0_tb (i := 233) (by decide +kernel) (by decide +kernel)
theorem m_234 : (Jvm.Cond.instanceMethod ({ cls := "FermionMaps$Wiring", name := "bringUp", desc := "(I)Z" } : Jvm.MethodName)) ∈ T0 := T0_tb (i := 234) (by decide +kernel) (by decide +kernel)
theorem m_235 : (Jvm.Cond.selects "FermionMaps$Wiring" ({ cls := "FermionMaps$Wiring", name := "bringUp", desc := "(I)Z" } : Jvm.MethodName) ({ cls := "FermionMaps$Wiring", name := "bringUp", desc := "(I)Z" } : Jvm.MethodName)) ∈ T0 := T0_tb (i := 235) (by decide +kernel) (by decide +kernel)
theorem m_236 : (Jvm.Cond.code ({ cls := "FermionMaps$Wiring", name := "bringUp", desc := "(I)Z" } : Jvm.MethodName) prog_4_method_6_code (5 : Nat) (Option.some Jvm.ClassFile.FieldType.boolean)) ∈ T0 := T0_tb (i := 236) (by decide +kernel) (by decide +kernel)
theorem m_238 : (Jvm.Cond.static ({ cls := "FermionMaps", name := "has", desc := "(II)Z" } : Jvm.MethodName)) ∈ T0 := T0_tb (i := 238) (by decide +kernel) (by decide +kernel)
theorem m_239 : (Jvm.Cond.code ({ cls := "FermionMaps", name := "has", desc := "(II)Z" } : Jvm.MethodName) prog_1_method_16_code (2 : Nat) (Option.some Jvm.ClassFile.FieldType.boolean)) ∈ T0 := T0_tb (i := 239) (by decide +kernel) (by decide +kernel)
theorem m_240 : (Jvm.Cond.methodLink "FermionMapsLaw" (62 : Nat) ({ cls := "FermionMaps", name := "row", desc := "(II)Z" } : Jvm.MethodName)) ∈ T0 := T0_tb (i := 240) (by decide +kernel) (by decide +kernel)
theorem m_241 : (Jvm.Cond.instanceMethod ({ cls := "FermionMaps", name := "row", desc := "(II)Z" } : Jvm.MethodName)) ∈ T0 := T0_tb (i := 241) (by decide +kernel) (by decide +kernel)
theorem m_242 : (Jvm.Cond.selects "FermionMaps" ({ cls := "FermionMaps", name := "row", desc := "(II)Z" } : Jvm.MethodName) ({ cls := "FermionMaps", name := "row", desc := "(II)Z" } : Jvm.MethodName)) ∈ T0 := T0_tb (i := 242) (by decide +kernel) (by decide +kernel)
theorem m_243 : (Jvm.Cond.code ({ cls := "FermionMaps", name := "row", desc := "(II)Z" } : Jvm.MethodName) prog_1_method_9_code (3 : Nat) (Option.some Jvm.ClassFile.FieldType.boolean)) ∈ T0 := T0_tb (i := 243) (by decide +kernel) (by decide +kernel)
theorem m_244 : (Jvm.Cond.methodLink "FermionMapsLaw" (67 : Nat) ({ cls := "FermionMaps", name := "written", desc := "(I)I" } : Jvm.MethodName)) ∈ T0 := T0_tb (i := 244) (by decide +kernel) (by decide +kernel)
theorem m_245 : (Jvm.Cond.instanceMethod ({ cls := "FermionMaps", name := "written", desc := "(I)I" } : Jvm.MethodName)) ∈ T0 := T0_tb (i := 245) (by decide +kernel) (by decide +kernel)
theorem m_246 : (Jvm.Cond.selects "FermionMaps" ({ cls := "FermionMaps", name := "written", desc := "(I)I" } : Jvm.MethodName) ({ cls := "FermionMaps", name := "written", desc := "(I)I" } : Jvm.MethodName)) ∈ T0 := T0_tb (i := 246) (by decide +kernel) (by decide +kernel)
theorem m_247 : (Jvm.Cond.code ({ cls := "FermionMaps", name := "written", desc := "(I)I" } : Jvm.MethodName) prog_1_method_10_code (2 : Nat) (Option.some Jvm.ClassFile.FieldType.int)) ∈ T0 := T0_tb (i := 247) (by decide +kernel) (by decide +kernel)
theorem m_248 : (Jvm.Cond.methodLink "FermionMaps" (96 : Nat) ({ cls := "FermionMaps$Wiring", name := "bits", desc := "([II)I" } : Jvm.MethodName)) ∈ T0 := T0_tb (i := 248) (by decide +kernel) (by decide +kernel)
theorem m_249 : (Jvm.Cond.instanceMethod ({ cls := "FermionMaps$Wiring", name := "bits", desc := "([II)I" } : Jvm.MethodName)) ∈ T0 := T0_tb (i := 249) (by decide +kernel) (by decide +kernel)
theorem m_250 : (Jvm.Cond.selects "FermionMaps$Wiring" ({ cls := "FermionMaps$Wiring", name := "bits", desc := "([II)I" } : Jvm.MethodName) ({ cls := "FermionMaps$Wiring", name := "bits", desc := "([II)I" } : Jvm.MethodName)) ∈ T0 := T0_tb (i := 250) (by decide +kernel) (by decide +kernel)
theorem m_251 : (Jvm.Cond.code ({ cls := "FermionMaps$Wiring", name := "bits", desc := "([II)I" } : Jvm.MethodName) prog_4_method_7_code (5 : Nat) (Option.some Jvm.ClassFile.FieldType.int)) ∈ T0 := T0_tb (i := 251) (by decide +kernel) (by decide +kernel)
theorem m_253 : (Jvm.Cond.methodLink "FermionMapsLaw" (72 : Nat) ({ cls := "FermionMaps", name := "read", desc := "(I)I" } : Jvm.MethodName)) ∈ T0 := T0_tb (i := 253) (by decide +kernel) (by decide +kernel)
theorem m_254 : (Jvm.Cond.instanceMethod ({ cls := "FermionMaps", name := "read", desc := "(I)I" } : Jvm.MethodName)) ∈ T0 := T0_tb (i := 254) (by decide +kernel) (by decide +kernel)
theorem m_255 : (Jvm.Cond.selects "FermionMaps" ({ cls := "FermionMaps", name := "read", desc := "(I)I" } : Jvm.MethodName) ({ cls := "FermionMaps", name := "read", desc := "(I)I" } : Jvm.MethodName)) ∈ T0 := T0_tb (i := 255) (by decide +kernel) (by decide +kernel)
theorem m_256 : (Jvm.Cond.code ({ cls := "FermionMaps", name := "read", desc := "(I)I" } : Jvm.MethodName) prog_1_method_11_code (2 : Nat) (Option.some Jvm.ClassFile.FieldType.int)) ∈ T0 := T0_tb (i := 256) (by decide +kernel) (by decide +kernel)
theorem m_257 : (Jvm.Cond.methodLink "FermionMapsLaw" (79 : Nat) ({ cls := "FermionMaps", name := "total", desc := "(I)I" } : Jvm.MethodName)) ∈ T0 := T0_tb (i := 257) (by decide +kernel) (by decide +kernel)
theorem m_258 : (Jvm.Cond.instanceMethod ({ cls := "FermionMaps", name := "total", desc := "(I)I" } : Jvm.MethodName)) ∈ T0 := T0_tb (i := 258) (by decide +kernel) (by decide +kernel)
theorem m_259 : (Jvm.Cond.selects "FermionMaps" ({ cls := "FermionMaps", name := "total", desc := "(I)I" } : Jvm.MethodName) ({ cls := "FermionMaps", name := "total", desc := "(I)I" } : Jvm.MethodName)) ∈ T0 := T0_tb (i := 259) (by decide +kernel) (by decide +kernel)
theorem m_260 : (Jvm.Cond.code ({ cls := "FermionMaps", name := "total", desc := "(I)I" } : Jvm.MethodName) prog_1_method_13_code (2 : Nat) (Option.some Jvm.ClassFile.FieldType.int)) ∈ T0 := T0_tb (i := 260) (by decide +kernel) (by decide +kernel)
theorem m_261 : (Jvm.Cond.methodLink "FermionMaps" (103 : Nat) ({ cls := "FermionMaps$Picture", name := "draw", desc := "(LFermionMaps$Sum;LFermionMaps$Wiring;)V" } : Jvm.MethodName)) ∈ T0 := T0_tb (i := 261) (by decide +kernel) (by decide +kernel)
theorem m_262 : (Jvm.Cond.instanceMethod ({ cls := "FermionMaps$Picture", name := "draw", desc := "(LFermionMaps$Sum;LFermionMaps$Wiring;)V" } : Jvm.MethodName)) ∈ T0 := T0_tb (i := 262) (by decide +kernel) (by decide +kernel)
theorem m_263 : (Jvm.Cond.selects "FermionMaps$Picture" ({ cls := "FermionMaps$Picture", name := "draw", desc := "(LFermionMaps$Sum;LFermionMaps$Wiring;)V" } : Jvm.MethodName) ({ cls := "FermionMaps$Picture", name := "draw", desc := "(LFermionMaps$Sum;LFermionMaps$Wiring;)V" } : Jvm.MethodName)) ∈ T0 := T0_tb (i := 263) (by decide +kernel) (by decide +kernel)
theorem m_264 : (Jvm.Cond.code ({ cls := "FermionMaps$Picture", name := "draw", desc := "(LFermionMaps$Sum;LFermionMaps$Wiring;)V" } : Jvm.MethodName) prog_2_method_2_code (7 : Nat) (Option.none : Option Jvm.ClassFile.FieldType)) ∈ T0 := T0_tb (i := 264) (by decide +kernel) (by decide +kernel)
theorem m_265 : (Jvm.Cond.methodLink "FermionMaps$Picture" (45 : Nat) ({ cls := "FermionMaps$Picture", name := "markFlips", desc := "(LFermionMaps$Sum;LFermionMaps$Wiring;)V" } : Jvm.MethodName)) ∈ T0 := T0_tb (i := 265) (by decide +kernel) (by decide +kernel)
theorem m_266 : (Jvm.Cond.instanceMethod ({ cls := "FermionMaps$Picture", name := "markFlips", desc := "(LFermionMaps$Sum;LFermionMaps$Wiring;)V" } : Jvm.MethodName)) ∈ T0 := T0_tb (i := 266) (by decide +kernel) (by decide +kernel)
theorem m_267 : (Jvm.Cond.selects "FermionMaps$Picture" ({ cls := "FermionMaps$Picture", name := "markFlips", desc := "(LFermionMaps$Sum;LFermionMaps$Wiring;)V" } : Jvm.MethodName) ({ cls := "FermionMaps$Picture", name := "markFlips", desc := "(LFermionMaps$Sum;LFermionMaps$Wiring;)V" } : Jvm.MethodName)) ∈ T0 := T0_tb (i := 267) (by decide +kernel) (by decide +kernel)
theorem m_268 : (Jvm.Cond.code ({ cls := "FermionMaps$Picture", name := "markFlips", desc := "(LFermionMaps$Sum;LFermionMaps$Wiring;)V" } : Jvm.MethodName) prog_2_method_3_code (4 : Nat) (Option.none : Option Jvm.ClassFile.FieldType)) ∈ T0 := T0_tb (i := 268) (by decide +kernel) (by decide +kernel)
theorem m_269 : (Jvm.Cond.methodLink "FermionMaps$Picture" (74 : Nat) ({ cls := "FermionMaps$Sum", name := "upsOf", desc := "(I)I" } : Jvm.MethodName)) ∈ T0 := T0_tb (i := 269) (by decide +kernel) (by decide +kernel)
theorem m_270 : (Jvm.Cond.instanceMethod ({ cls := "FermionMaps$Sum", name := "upsOf", desc := "(I)I" } : Jvm.MethodName)) ∈ T0 := T0_tb (i := 270) (by decide +kernel) (by decide +kernel)
theorem m_271 : (Jvm.Cond.selects "FermionMaps$Sum" ({ cls := "FermionMaps$Sum", name := "upsOf", desc := "(I)I" } : Jvm.MethodName) ({ cls := "FermionMaps$Sum", name := "upsOf", desc := "(I)I" } : Jvm.MethodName)) ∈ T0 := T0_tb (i := 271) (by decide +kernel) (by decide +kernel)
theorem m_272 : (Jvm.Cond.code ({ cls := "FermionMaps$Sum", name := "upsOf", desc := "(I)I" } : Jvm.MethodName) prog_3_method_2_code (2 : Nat) (Option.some Jvm.ClassFile.FieldType.int)) ∈ T0 := T0_tb (i := 272) (by decide +kernel) (by decide +kernel)
theorem m_273 : (Jvm.Cond.methodLink "FermionMaps$Picture" (78 : Nat) ({ cls := "FermionMaps$Sum", name := "downsOf", desc := "(I)I" } : Jvm.MethodName)) ∈ T0 := T0_tb (i := 273) (by decide +kernel) (by decide +kernel)
theorem m_274 : (Jvm.Cond.instanceMethod ({ cls := "FermionMaps$Sum", name := "downsOf", desc := "(I)I" } : Jvm.MethodName)) ∈ T0 := T0_tb (i := 274) (by decide +kernel) (by decide +kernel)
theorem m_275 : (Jvm.Cond.selects "FermionMaps$Sum" ({ cls := "FermionMaps$Sum", name := "downsOf", desc := "(I)I" } : Jvm.MethodName) ({ cls := "FermionMaps$Sum", name := "downsOf", desc := "(I)I" } : Jvm.MethodName)) ∈ T0 := T0_tb (i := 275) (by decide +kernel) (by decide +kernel)
theorem m_276 : (Jvm.Cond.code ({ cls := "FermionMaps$Sum", name := "downsOf", desc := "(I)I" } : Jvm.MethodName) prog_3_method_3_code (2 : Nat) (Option.some Jvm.ClassFile.FieldType.int)) ∈ T0 := T0_tb (i := 276) (by decide +kernel) (by decide +kernel)
theorem m_277 : (Jvm.Cond.methodLink "FermionMaps$Picture" (81 : Nat) ({ cls := "FermionMaps$Wiring", name := "bits", desc := "([II)I" } : Jvm.MethodName)) ∈ T0 := T0_tb (i := 277) (by decide +kernel) (by decide +kernel)
theorem m_278 : (Jvm.Cond.methodLink "FermionMaps$Picture" (54 : Nat) ({ cls := "FermionMaps$Picture", name := "hold", desc := "(ILFermionMaps$Sum;LFermionMaps$Wiring;)V" } : Jvm.MethodName)) ∈ T0 := T0_tb (i := 278) (by decide +kernel) (by decide +kernel)
theorem m_279 : (Jvm.Cond.instanceMethod ({ cls := "FermionMaps$Picture", name := "hold", desc := "(ILFermionMaps$Sum;LFermionMaps$Wiring;)V" } : Jvm.MethodName)) ∈ T0 := T0_tb (i := 279) (by decide +kernel) (by decide +kernel)
theorem m_280 : (Jvm.Cond.selects "FermionMaps$Picture" ({ cls := "FermionMaps$Picture", name := "hold", desc := "(ILFermionMaps$Sum;LFermionMaps$Wiring;)V" } : Jvm.MethodName) ({ cls := "FermionMaps$Picture", name := "hold", desc := "(ILFermionMaps$Sum;LFermionMaps$Wiring;)V" } : Jvm.MethodName)) ∈ T0 := T0_tb (i := 280) (by decide +kernel) (by decide +kernel)
theorem m_281 : (Jvm.Cond.code ({ cls := "FermionMaps$Picture", name := "hold", desc := "(ILFermionMaps$Sum;LFermionMaps$Wiring;)V" } : Jvm.MethodName) prog_2_method_4_code (6 : Nat) (Option.none : Option Jvm.ClassFile.FieldType)) ∈ T0 := T0_tb (i := 281) (by decide +kernel) (by decide +kernel)
theorem m_282 : (Jvm.Cond.methodLink "FermionMaps$Picture" (87 : Nat) ({ cls := "FermionMaps$Picture", name := "bring", desc := "(IIILFermionMaps$Wiring;)V" } : Jvm.MethodName)) ∈ T0 := T0_tb (i := 282) (by decide +kernel) (by decide +kernel)
theorem m_283 : (Jvm.Cond.instanceMethod ({ cls := "FermionMaps$Picture", name := "bring", desc := "(IIILFermionMaps$Wiring;)V" } : Jvm.MethodName)) ∈ T0 := T0_tb (i := 283) (by decide +kernel) (by decide +kernel)
theorem m_284 : (Jvm.Cond.selects "FermionMaps$Picture" ({ cls := "FermionMaps$Picture", name := "bring", desc := "(IIILFermionMaps$Wiring;)V" } : Jvm.MethodName) ({ cls := "FermionMaps$Picture", name := "bring", desc := "(IIILFermionMaps$Wiring;)V" } : Jvm.MethodName)) ∈ T0 := T0_tb (i := 284) (by decide +kernel) (by decide +kernel)
theorem m_285 : (Jvm.Cond.code ({ cls := "FermionMaps$Picture", name := "bring", desc := "(IIILFermionMaps$Wiring;)V" } : Jvm.MethodName) prog_2_method_7_code (11 : Nat) (Option.none : Option Jvm.ClassFile.FieldType)) ∈ T0 := T0_tb (i := 285) (by decide +kernel) (by decide +kernel)
theorem m_287 : (Jvm.Cond.static ({ cls := "FermionMaps", name := "oddBelow", desc := "(I)I" } : Jvm.MethodName)) ∈ T0 := T0_tb (i := 287) (by decide +kernel) (by decide +kernel)
theorem m_288 : (Jvm.Cond.code ({ cls := "FermionMaps", name := "oddBelow", desc := "(I)I" } : Jvm.MethodName) prog_1_method_18_code (2 : Nat) (Option.some Jvm.ClassFile.FieldType.int)) ∈ T0 := T0_tb (i := 288) (by decide +kernel) (by decide +kernel)
theorem m_289 : (Jvm.Cond.methodLink "FermionMaps$Picture" (105 : Nat) ({ cls := "FermionMaps$Wiring", name := "signsOf", desc := "(I)I" } : Jvm.MethodName)) ∈ T0 := T0_tb (i := 289) (by decide +kernel) (by decide +kernel)
theorem m_290 : (Jvm.Cond.instanceMethod ({ cls := "FermionMaps$Wiring", name := "signsOf", desc := "(I)I" } : Jvm.MethodName)) ∈ T0 := T0_tb (i := 290) (by decide +kernel) (by decide +kernel)
theorem m_291 : (Jvm.Cond.selects "FermionMaps$Wiring" ({ cls := "FermionMaps$Wiring", name := "signsOf", desc := "(I)I" } : Jvm.MethodName) ({ cls := "FermionMaps$Wiring", name := "signsOf", desc := "(I)I" } : Jvm.MethodName)) ∈ T0 := T0_tb (i := 291) (by decide +kernel) (by decide +kernel)
theorem m_292 : (Jvm.Cond.code ({ cls := "FermionMaps$Wiring", name := "signsOf", desc := "(I)I" } : Jvm.MethodName) prog_4_method_8_code (4 : Nat) (Option.some Jvm.ClassFile.FieldType.int)) ∈ T0 := T0_tb (i := 292) (by decide +kernel) (by decide +kernel)
theorem m_294 : (Jvm.Cond.static ({ cls := "FermionMaps", name := "turnsAlways", desc := "(II)Z" } : Jvm.MethodName)) ∈ T0 := T0_tb (i := 294) (by decide +kernel) (by decide +kernel)
theorem m_295 : (Jvm.Cond.code ({ cls := "FermionMaps", name := "turnsAlways", desc := "(II)Z" } : Jvm.MethodName) prog_1_method_19_code (2 : Nat) (Option.some Jvm.ClassFile.FieldType.boolean)) ∈ T0 := T0_tb (i := 295) (by decide +kernel) (by decide +kernel)
theorem m_296 : (Jvm.Cond.methodLink "FermionMaps" (143 : Nat) ({ cls := "FermionMaps", name := "oddBelow", desc := "(I)I" } : Jvm.MethodName)) ∈ T0 := T0_tb (i := 296) (by decide +kernel) (by decide +kernel)
theorem m_297 : (Jvm.Cond.methodLink "FermionMaps" (146 : Nat) ({ cls := "FermionMaps", name := "isOdd", desc := "(I)Z" } : Jvm.MethodName)) ∈ T0 := T0_tb (i := 297) (by decide +kernel) (by decide +kernel)
theorem m_299 : (Jvm.Cond.methodLink "FermionMaps$Picture" (118 : Nat) ({ cls := "FermionMaps$Picture", name := "doubled", desc := "(II)I" } : Jvm.MethodName)) ∈ T0 := T0_tb (i := 299) (by decide +kernel) (by decide +kernel)
theorem m_300 : (Jvm.Cond.instanceMethod ({ cls := "FermionMaps$Picture", name := "doubled", desc := "(II)I" } : Jvm.MethodName)) ∈ T0 := T0_tb (i := 300) (by decide +kernel) (by decide +kernel)
theorem m_301 : (Jvm.Cond.selects "FermionMaps$Picture" ({ cls := "FermionMaps$Picture", name := "doubled", desc := "(II)I" } : Jvm.MethodName) ({ cls := "FermionMaps$Picture", name := "doubled", desc := "(II)I" } : Jvm.MethodName)) ∈ T0 := T0_tb (i := 301) (by decide +kernel) (by decide +kernel)
theorem m_302 : (Jvm.Cond.code ({ cls := "FermionMaps$Picture", name := "doubled", desc := "(II)I" } : Jvm.MethodName) prog_2_method_8_code (4 : Nat) (Option.some Jvm.ClassFile.FieldType.int)) ∈ T0 := T0_tb (i := 302) (by decide +kernel) (by decide +kernel)
theorem m_303 : (Jvm.Cond.methodLink "FermionMaps$Picture" (91 : Nat) ({ cls := "java/lang/Integer", name := "bitCount", desc := "(I)I" } : Jvm.MethodName)) ∈ T0 := T0_tb (i := 303) (by decide +kernel) (by decide +kernel)
theorem m_304 : (Jvm.Cond.methodLink "FermionMaps$Picture" (58 : Nat) ({ cls := "FermionMaps$Picture", name := "tally", desc := "(I)J" } : Jvm.MethodName)) ∈ T0 := T0_tb (i := 304) (by decide +kernel) (by decide +kernel)
theorem m_305 : (Jvm.Cond.instanceMethod ({ cls := "FermionMaps$Picture", name := "tally", desc := "(I)J" } : Jvm.MethodName)) ∈ T0 := T0_tb (i := 305) (by decide +kernel) (by decide +kernel)
theorem m_306 : (Jvm.Cond.selects "FermionMaps$Picture" ({ cls := "FermionMaps$Picture", name := "tally", desc := "(I)J" } : Jvm.MethodName) ({ cls := "FermionMaps$Picture", name := "tally", desc := "(I)J" } : Jvm.MethodName)) ∈ T0 := T0_tb (i := 306) (by decide +kernel) (by decide +kernel)
theorem m_307 : (Jvm.Cond.code ({ cls := "FermionMaps$Picture", name := "tally", desc := "(I)J" } : Jvm.MethodName) prog_2_method_5_code (6 : Nat) (Option.some Jvm.ClassFile.FieldType.long)) ∈ T0 := T0_tb (i := 307) (by decide +kernel) (by decide +kernel)
theorem m_308 : (Jvm.Cond.methodLink "FermionMaps$Picture" (96 : Nat) ({ cls := "java/lang/Math", name := "max", desc := "(II)I" } : Jvm.MethodName)) ∈ T0 := T0_tb (i := 308) (by decide +kernel) (by decide +kernel)
theorem m_309 : (Jvm.Cond.static ({ cls := "java/lang/Math", name := "max", desc := "(II)I" } : Jvm.MethodName)) ∈ T0 := T0_tb (i := 309) (by decide +kernel) (by decide +kernel)
theorem m_310 : (Jvm.Cond.code ({ cls := "java/lang/Math", name := "max", desc := "(II)I" } : Jvm.MethodName) prog_9_method_65_code (2 : Nat) (Option.some Jvm.ClassFile.FieldType.int)) ∈ T0 := T0_tb (i := 310) (by decide +kernel) (by decide +kernel)
theorem m_311 : (Jvm.Cond.methodLink "FermionMaps$Picture" (62 : Nat) ({ cls := "FermionMaps$Picture", name := "leastHalvings", desc := "(JI)I" } : Jvm.MethodName)) ∈ T0 := T0_tb (i := 311) (by decide +kernel) (by decide +kernel)
theorem m_312 : (Jvm.Cond.static ({ cls := "FermionMaps$Picture", name := "leastHalvings", desc := "(JI)I" } : Jvm.MethodName)) ∈ T0 := T0_tb (i := 312) (by decide +kernel) (by decide +kernel)
theorem m_313 : (Jvm.Cond.code ({ cls := "FermionMaps$Picture", name := "leastHalvings", desc := "(JI)I" } : Jvm.MethodName) prog_2_method_6_code (6 : Nat) (Option.some Jvm.ClassFile.FieldType.int)) ∈ T0 := T0_tb (i := 313) (by decide +kernel) (by decide +kernel)
theorem m_314 : (Jvm.Cond.methodLink "FermionMaps" (132 : Nat) ({ cls := "FermionMaps$Sum", name := "isEven", desc := "()Z" } : Jvm.MethodName)) ∈ T0 := T0_tb (i := 314) (by decide +kernel) (by decide +kernel)
theorem m_315 : (Jvm.Cond.instanceMethod ({ cls := "FermionMaps$Sum", name := "isEven", desc := "()Z" } : Jvm.MethodName)) ∈ T0 := T0_tb (i := 315) (by decide +kernel) (by decide +kernel)
theorem m_316 : (Jvm.Cond.selects "FermionMaps$Sum" ({ cls := "FermionMaps$Sum", name := "isEven", desc := "()Z" } : Jvm.MethodName) ({ cls := "FermionMaps$Sum", name := "isEven", desc := "()Z" } : Jvm.MethodName)) ∈ T0 := T0_tb (i := 316) (by decide +kernel) (by decide +kernel)
theorem m_317 : (Jvm.Cond.code ({ cls := "FermionMaps$Sum", name := "isEven", desc := "()Z" } : Jvm.MethodName) prog_3_method_4_code (2 : Nat) (Option.some Jvm.ClassFile.FieldType.boolean)) ∈ T0 := T0_tb (i := 317) (by decide +kernel) (by decide +kernel)
theorem m_318 : (Jvm.Cond.methodLink "FermionMaps$Sum" (28 : Nat) ({ cls := "FermionMaps$Sum", name := "upsOf", desc := "(I)I" } : Jvm.MethodName)) ∈ T0 := T0_tb (i := 318) (by decide +kernel) (by decide +kernel)
theorem m_319 : (Jvm.Cond.methodLink "FermionMaps$Sum" (32 : Nat) ({ cls := "java/lang/Integer", name := "bitCount", desc := "(I)I" } : Jvm.MethodName)) ∈ T0 := T0_tb (i := 319) (by decide +kernel) (by decide +kernel)
theorem m_320 : (Jvm.Cond.methodLink "FermionMaps$Sum" (37 : Nat) ({ cls := "FermionMaps$Sum", name := "downsOf", desc := "(I)I" } : Jvm.MethodName)) ∈ T0 := T0_tb (i := 320) (by decide +kernel) (by decide +kernel)
theorem m_321 : (Jvm.Cond.methodLink "FermionMapsLaw" (45 : Nat) ({ cls := "FermionMapsLaw", name := "product", desc := "(LFermionMaps;II[J)I" } : Jvm.MethodName)) ∈ T0 := T0_tb (i := 321) (by decide +kernel) (by decide +kernel)
theorem m_322 : (Jvm.Cond.static ({ cls := "FermionMapsLaw", name := "product", desc := "(LFermionMaps;II[J)I" } : Jvm.MethodName)) ∈ T0 := T0_tb (i := 322) (by decide +kernel) (by decide +kernel)
theorem m_324 : (Jvm.Cond.classLink "FermionMapsLaw" (13 : Nat) "java/util/NoSuchElementException") ∈ T0 := T0_tb (i := 324) (by decide +kernel) (by decide +kernel)
theorem m_325 : (Jvm.Cond.methodLink "FermionMapsLaw" (7 : Nat) ({ cls := "FermionMaps", name := "product", desc := "(II)I" } : Jvm.MethodName)) ∈ T0 := T0_tb (i := 325) (by decide +kernel) (by decide +kernel)
theorem m_326 : (Jvm.Cond.instanceMethod ({ cls := "FermionMaps", name := "product", desc := "(II)I" } : Jvm.MethodName)) ∈ T0 := T0_tb (i := 326) (by decide +kernel) (by decide +kernel)
theorem m_327 : (Jvm.Cond.selects "FermionMaps" ({ cls := "FermionMaps", name := "product", desc := "(II)I" } : Jvm.MethodName) ({ cls := "FermionMaps", name := "product", desc := "(II)I" } : Jvm.MethodName)) ∈ T0 := T0_tb (i := 327) (by decide +kernel) (by decide +kernel)
theorem m_328 : (Jvm.Cond.code ({ cls := "FermionMaps", name := "product", desc := "(II)I" } : Jvm.MethodName) prog_1_method_6_code (3 : Nat) (Option.some Jvm.ClassFile.FieldType.int)) ∈ T0 := T0_tb (i := 328) (by decide +kernel) (by decide +kernel)
theorem m_329 : (Jvm.Cond.classLink "FermionMaps" (60 : Nat) "java/util/NoSuchElementException") ∈ T0 := T0_tb (i := 329) (by decide +kernel) (by decide +kernel)
theorem m_330 : (Jvm.Cond.instantiable "java/util/NoSuchElementException" (6 : Nat)) ∈ T0 := T0_tb (i := 330) (by decide +kernel) (by decide +kernel)
theorem m_338 : (Jvm.Cond.selects "java/util/NoSuchElementException" ({ cls := "java/lang/Throwable", name := "fillInStackTrace", desc := "(I)Ljava/lang/Throwable;" } : Jvm.MethodName) ({ cls := "java/lang/Throwable", name := "fillInStackTrace", desc := "(I)Ljava/lang/Throwable;" } : Jvm.MethodName)) ∈ T0 := T0_tb (i := 338) (by decide +kernel) (by decide +kernel)
theorem m_339 : (Jvm.Cond.selects "java/util/NoSuchElementException" ({ cls := "java/lang/Throwable", name := "fillInStackTrace", desc := "()Ljava/lang/Throwable;" } : Jvm.MethodName) ({ cls := "java/lang/Throwable", name := "fillInStackTrace", desc := "()Ljava/lang/Throwable;" } : Jvm.MethodName)) ∈ T0 := T0_tb (i := 339) (by decide +kernel) (by decide +kernel)
theorem m_350 : (Jvm.Cond.fieldLink "java/lang/Throwable" (198 : Nat) "java/lang/Throwable" "backtrace" "Ljava/lang/Object;") ∈ T0 := T0_tb (i := 350) (by decide +kernel) (by decide +kernel)
theorem m_352 : (Jvm.Cond.instanceMethod ({ cls := "java/lang/Throwable", name := "<init>", desc := "()V" } : Jvm.MethodName)) ∈ T0 := T0_tb (i := 352) (by decide +kernel) (by decide +kernel)
theorem m_353 : (Jvm.Cond.code ({ cls := "java/lang/Throwable", name := "<init>", desc := "()V" } : Jvm.MethodName) prog_12_method_1_code (1 : Nat) (Option.none : Option Jvm.ClassFile.FieldType)) ∈ T0 := T0_tb (i := 353) (by decide +kernel) (by decide +kernel)
theorem m_354 : (Jvm.Cond.methodLink "java/lang/Throwable" (1 : Nat) ({ cls := "java/lang/Object", name := "<init>", desc := "()V" } : Jvm.MethodName)) ∈ T0 := T0_tb (i := 354) (by decide +kernel) (by decide +kernel)
theorem m_355 : (Jvm.Cond.fieldLink "java/lang/Throwable" (13 : Nat) "java/lang/Throwable" "UNASSIGNED_STACK" "[Ljava/lang/StackTraceElement;") ∈ T0 := T0_tb (i := 355) (by decide +kernel) (by decide +kernel)
theorem m_357 : (Jvm.Cond.fieldLink "java/lang/Throwable" (20 : Nat) "java/lang/Throwable" "SUPPRESSED_SENTINEL" "Ljava/util/List;") ∈ T0 := T0_tb (i := 357) (by decide +kernel) (by decide +kernel)
theorem m_359 : (Jvm.Cond.methodLink "java/lang/Throwable" (27 : Nat) ({ cls := "java/lang/Throwable", name := "fillInStackTrace", desc := "()Ljava/lang/Throwable;" } : Jvm.MethodName)) ∈ T0 := T0_tb (i := 359) (by decide +kernel) (by decide +kernel)
theorem m_360 : (Jvm.Cond.instanceMethod ({ cls := "java/lang/Throwable", name := "fillInStackTrace", desc := "()Ljava/lang/Throwable;" } : Jvm.MethodName)) ∈ T0 := T0_tb (i := 360) (by decide +kernel) (by decide +kernel)
theorem m_363 : (Jvm.Cond.methodLink "java/lang/Throwable" (202 : Nat) ({ cls := "java/lang/Throwable", name := "fillInStackTrace", desc := "(I)Ljava/lang/Throwable;" } : Jvm.MethodName)) ∈ T0 := T0_tb (i := 363) (by decide +kernel) (by decide +kernel)
theorem m_365 : (Jvm.Cond.instanceMethod ({ cls := "java/lang/Throwable", name := "fillInStackTrace", desc := "(I)Ljava/lang/Throwable;" } : Jvm.MethodName)) ∈ T0 := T0_tb (i := 365) (by decide +kernel) (by decide +kernel)
theorem m_366 : (Jvm.Cond.instantiable "java/lang/Throwable" (6 : Nat)) ∈ T0 := T0_tb (i := 366) (by decide +kernel) (by decide +kernel)
theorem m_369 : (Jvm.Cond.methodLink "FermionMaps" (64 : Nat) ({ cls := "java/util/NoSuchElementException", name := "<init>", desc := "(Ljava/lang/String;)V" } : Jvm.MethodName)) ∈ T0 := T0_tb (i := 369) (by decide +kernel) (by decide +kernel)
theorem m_370 : (Jvm.Cond.instanceMethod ({ cls := "java/util/NoSuchElementException", name := "<init>", desc := "(Ljava/lang/String;)V" } : Jvm.MethodName)) ∈ T0 := T0_tb (i := 370) (by decide +kernel) (by decide +kernel)
theorem m_371 : (Jvm.Cond.code ({ cls := "java/util/NoSuchElementException", name := "<init>", desc := "(Ljava/lang/String;)V" } : Jvm.MethodName) prog_13_method_4_code (2 : Nat) (Option.none : Option Jvm.ClassFile.FieldType)) ∈ T0 := T0_tb (i := 371) (by decide +kernel) (by decide +kernel)
theorem m_372 : (Jvm.Cond.methodLink "java/util/NoSuchElementException" (13 : Nat) ({ cls := "java/lang/RuntimeException", name := "<init>", desc := "(Ljava/lang/String;)V" } : Jvm.MethodName)) ∈ T0 := T0_tb (i := 372) (by decide +kernel) (by decide +kernel)
theorem m_373 : (Jvm.Cond.instanceMethod ({ cls := "java/lang/RuntimeException", name := "<init>", desc := "(Ljava/lang/String;)V" } : Jvm.MethodName)) ∈ T0 := T0_tb (i := 373) (by decide +kernel) (by decide +kernel)
theorem m_374 : (Jvm.Cond.code ({ cls := "java/lang/RuntimeException", name := "<init>", desc := "(Ljava/lang/String;)V" } : Jvm.MethodName) prog_10_method_2_code (2 : Nat) (Option.none : Option Jvm.ClassFile.FieldType)) ∈ T0 := T0_tb (i := 374) (by decide +kernel) (by decide +kernel)
theorem m_375 : (Jvm.Cond.methodLink "java/lang/RuntimeException" (7 : Nat) ({ cls := "java/lang/Exception", name := "<init>", desc := "(Ljava/lang/String;)V" } : Jvm.MethodName)) ∈ T0 := T0_tb (i := 375) (by decide +kernel) (by decide +kernel)
theorem m_376 : (Jvm.Cond.instanceMethod ({ cls := "java/lang/Exception", name := "<init>", desc := "(Ljava/lang/String;)V" } : Jvm.MethodName)) ∈ T0 := T0_tb (i := 376) (by decide +kernel) (by decide +kernel)
theorem m_377 : (Jvm.Cond.code ({ cls := "java/lang/Exception", name := "<init>", desc := "(Ljava/lang/String;)V" } : Jvm.MethodName) prog_7_method_2_code (2 : Nat) (Option.none : Option Jvm.ClassFile.FieldType)) ∈ T0 := T0_tb (i := 377) (by decide +kernel) (by decide +kernel)
theorem m_378 : (Jvm.Cond.methodLink "java/lang/Exception" (7 : Nat) ({ cls := "java/lang/Throwable", name := "<init>", desc := "(Ljava/lang/String;)V" } : Jvm.MethodName)) ∈ T0 := T0_tb (i := 378) (by decide +kernel) (by decide +kernel)
theorem m_379 : (Jvm.Cond.instanceMethod ({ cls := "java/lang/Throwable", name := "<init>", desc := "(Ljava/lang/String;)V" } : Jvm.MethodName)) ∈ T0 := T0_tb (i := 379) (by decide +kernel) (by decide +kernel)
theorem m_380 : (Jvm.Cond.code ({ cls := "java/lang/Throwable", name := "<init>", desc := "(Ljava/lang/String;)V" } : Jvm.MethodName) prog_12_method_2_code (2 : Nat) (Option.none : Option Jvm.ClassFile.FieldType)) ∈ T0 := T0_tb (i := 380) (by decide +kernel) (by decide +kernel)
theorem m_381 : (Jvm.Cond.fieldLink "java/lang/Throwable" (198 : Nat) "java/lang/Throwable" "backtrace" "Ljava/lang/Object;") ∈ T0 := T0_tb (i := 381) (by decide +kernel) (by decide +kernel)
theorem m_382 : (Jvm.Cond.fieldLink "java/lang/Throwable" (31 : Nat) "java/lang/Throwable" "detailMessage" "Ljava/lang/String;") ∈ T0 := T0_tb (i := 382) (by decide +kernel) (by decide +kernel)
theorem m_383 : (Jvm.Cond.fieldLink "java/lang/Throwable" (7 : Nat) "java/lang/Throwable" "cause" "Ljava/lang/Throwable;") ∈ T0 := T0_tb (i := 383) (by decide +kernel) (by decide +kernel)
theorem m_384 : (Jvm.Cond.fieldLink "java/lang/Throwable" (17 : Nat) "java/lang/Throwable" "stackTrace" "[Ljava/lang/StackTraceElement;") ∈ T0 := T0_tb (i := 384) (by decide +kernel) (by decide +kernel)
theorem m_385 : (Jvm.Cond.fieldLink "java/lang/Throwable" (24 : Nat) "java/lang/Throwable" "suppressedExceptions" "Ljava/util/List;") ∈ T0 := T0_tb (i := 385) (by decide +kernel) (by decide +kernel)
theorem m_394 : (Jvm.Cond.arrayClass Jvm.ClassFile.FieldType.byte) ∈ T0 := T0_tb (i := 394) (by decide +kernel) (by decide +kernel)
theorem m_395 : (Jvm.Cond.methodLink "FermionMaps" (67 : Nat) ({ cls := "FermionMaps$Sum", name := "upsOf", desc := "(I)I" } : Jvm.MethodName)) ∈ T0 := T0_tb (i := 395) (by decide +kernel) (by decide +kernel)
theorem m_396 : (Jvm.Cond.methodLink "FermionMaps" (71 : Nat) ({ cls := "FermionMaps$Sum", name := "downsOf", desc := "(I)I" } : Jvm.MethodName)) ∈ T0 := T0_tb (i := 396) (by decide +kernel) (by decide +kernel)
theorem m_397 : (Jvm.Cond.methodLink "FermionMapsLaw" (55 : Nat) ({ cls := "FermionMapsLaw", name := "makes", desc := "(LFermionMaps;II[J)I" } : Jvm.MethodName)) ∈ T0 := T0_tb (i := 397) (by decide +kernel) (by decide +kernel)
theorem m_398 : (Jvm.Cond.static ({ cls := "FermionMapsLaw", name := "makes", desc := "(LFermionMaps;II[J)I" } : Jvm.MethodName)) ∈ T0 := T0_tb (i := 398) (by decide +kernel) (by decide +kernel)
theorem m_400 : (Jvm.Cond.methodLink "FermionMapsLaw" (15 : Nat) ({ cls := "FermionMaps", name := "makes", desc := "(II)J" } : Jvm.MethodName)) ∈ T0 := T0_tb (i := 400) (by decide +kernel) (by decide +kernel)
theorem m_401 : (Jvm.Cond.instanceMethod ({ cls := "FermionMaps", name := "makes", desc := "(II)J" } : Jvm.MethodName)) ∈ T0 := T0_tb (i := 401) (by decide +kernel) (by decide +kernel)
theorem m_402 : (Jvm.Cond.selects "FermionMaps" ({ cls := "FermionMaps", name := "makes", desc := "(II)J" } : Jvm.MethodName) ({ cls := "FermionMaps", name := "makes", desc := "(II)J" } : Jvm.MethodName)) ∈ T0 := T0_tb (i := 402) (by decide +kernel) (by decide +kernel)
theorem m_403 : (Jvm.Cond.code ({ cls := "FermionMaps", name := "makes", desc := "(II)J" } : Jvm.MethodName) prog_1_method_7_code (3 : Nat) (Option.some Jvm.ClassFile.FieldType.long)) ∈ T0 := T0_tb (i := 403) (by decide +kernel) (by decide +kernel)
theorem m_405 : (Jvm.Cond.methodLink "FermionMaps" (80 : Nat) ({ cls := "FermionMaps$Sum", name := "between", desc := "(II)J" } : Jvm.MethodName)) ∈ T0 := T0_tb (i := 405) (by decide +kernel) (by decide +kernel)
theorem m_406 : (Jvm.Cond.instanceMethod ({ cls := "FermionMaps$Sum", name := "between", desc := "(II)J" } : Jvm.MethodName)) ∈ T0 := T0_tb (i := 406) (by decide +kernel) (by decide +kernel)
theorem m_407 : (Jvm.Cond.selects "FermionMaps$Sum" ({ cls := "FermionMaps$Sum", name := "between", desc := "(II)J" } : Jvm.MethodName) ({ cls := "FermionMaps$Sum", name := "between", desc := "(II)J" } : Jvm.MethodName)) ∈ T0 := T0_tb (i := 407) (by decide +kernel) (by decide +kernel)
theorem m_408 : (Jvm.Cond.code ({ cls := "FermionMaps$Sum", name := "between", desc := "(II)J" } : Jvm.MethodName) prog_3_method_5_code (10 : Nat) (Option.some Jvm.ClassFile.FieldType.long)) ∈ T0 := T0_tb (i := 408) (by decide +kernel) (by decide +kernel)
theorem m_411 : (Jvm.Cond.methodLink "FermionMapsLaw" (76 : Nat) ({ cls := "FermionMapsLaw", name := "image", desc := "(LFermionMaps;II[J)I" } : Jvm.MethodName)) ∈ T0 := T0_tb (i := 411) (by decide +kernel) (by decide +kernel)
theorem m_412 : (Jvm.Cond.static ({ cls := "FermionMapsLaw", name := "image", desc := "(LFermionMaps;II[J)I" } : Jvm.MethodName)) ∈ T0 := T0_tb (i := 412) (by decide +kernel) (by decide +kernel)
theorem m_414 : (Jvm.Cond.methodLink "FermionMapsLaw" (19 : Nat) ({ cls := "FermionMaps", name := "image", desc := "(II)J" } : Jvm.MethodName)) ∈ T0 := T0_tb (i := 414) (by decide +kernel) (by decide +kernel)
theorem m_415 : (Jvm.Cond.instanceMethod ({ cls := "FermionMaps", name := "image", desc := "(II)J" } : Jvm.MethodName)) ∈ T0 := T0_tb (i := 415) (by decide +kernel) (by decide +kernel)
theorem m_416 : (Jvm.Cond.selects "FermionMaps" ({ cls := "FermionMaps", name := "image", desc := "(II)J" } : Jvm.MethodName) ({ cls := "FermionMaps", name := "image", desc := "(II)J" } : Jvm.MethodName)) ∈ T0 := T0_tb (i := 416) (by decide +kernel) (by decide +kernel)
theorem m_417 : (Jvm.Cond.code ({ cls := "FermionMaps", name := "image", desc := "(II)J" } : Jvm.MethodName) prog_1_method_12_code (3 : Nat) (Option.some Jvm.ClassFile.FieldType.long)) ∈ T0 := T0_tb (i := 417) (by decide +kernel) (by decide +kernel)
theorem m_419 : (Jvm.Cond.methodLink "FermionMaps" (115 : Nat) ({ cls := "FermionMaps$Picture", name := "find", desc := "(ILFermionMaps$Sum;LFermionMaps$Wiring;)V" } : Jvm.MethodName)) ∈ T0 := T0_tb (i := 419) (by decide +kernel) (by decide +kernel)
theorem m_420 : (Jvm.Cond.instanceMethod ({ cls := "FermionMaps$Picture", name := "find", desc := "(ILFermionMaps$Sum;LFermionMaps$Wiring;)V" } : Jvm.MethodName)) ∈ T0 := T0_tb (i := 420) (by decide +kernel) (by decide +kernel)
theorem m_421 : (Jvm.Cond.selects "FermionMaps$Picture" ({ cls := "FermionMaps$Picture", name := "find", desc := "(ILFermionMaps$Sum;LFermionMaps$Wiring;)V" } : Jvm.MethodName) ({ cls := "FermionMaps$Picture", name := "find", desc := "(ILFermionMaps$Sum;LFermionMaps$Wiring;)V" } : Jvm.MethodName)) ∈ T0 := T0_tb (i := 421) (by decide +kernel) (by decide +kernel)
theorem m_422 : (Jvm.Cond.code ({ cls := "FermionMaps$Picture", name := "find", desc := "(ILFermionMaps$Sum;LFermionMaps$Wiring;)V" } : Jvm.MethodName) prog_2_method_9_code (8 : Nat) (Option.none : Option Jvm.ClassFile.FieldType)) ∈ T0 := T0_tb (i := 422) (by decide +kernel) (by decide +kernel)
theorem m_423 : (Jvm.Cond.methodLink "FermionMaps" (125 : Nat) ({ cls := "FermionMaps$Picture", name := "foundNumber", desc := "(I)J" } : Jvm.MethodName)) ∈ T0 := T0_tb (i := 423) (by decide +kernel) (by decide +kernel)
theorem m_424 : (Jvm.Cond.instanceMethod ({ cls := "FermionMaps$Picture", name := "foundNumber", desc := "(I)J" } : Jvm.MethodName)) ∈ T0 := T0_tb (i := 424) (by decide +kernel) (by decide +kernel)
theorem m_425 : (Jvm.Cond.selects "FermionMaps$Picture" ({ cls := "FermionMaps$Picture", name := "foundNumber", desc := "(I)J" } : Jvm.MethodName) ({ cls := "FermionMaps$Picture", name := "foundNumber", desc := "(I)J" } : Jvm.MethodName)) ∈ T0 := T0_tb (i := 425) (by decide +kernel) (by decide +kernel)
theorem m_426 : (Jvm.Cond.code ({ cls := "FermionMaps$Picture", name := "foundNumber", desc := "(I)J" } : Jvm.MethodName) prog_2_method_10_code (2 : Nat) (Option.some Jvm.ClassFile.FieldType.long)) ∈ T0 := T0_tb (i := 426) (by decide +kernel) (by decide +kernel)
theorem m_427 : (Jvm.Cond.classLink "FermionMapsLaw" (23 : Nat) "FermionMapsModel") ∈ T0 := T0_tb (i := 427) (by decide +kernel) (by decide +kernel)
theorem m_428 : (Jvm.Cond.instantiable "FermionMapsModel" (25 : Nat)) ∈ T0 := T0_tb (i := 428) (by decide +kernel) (by decide +kernel)
theorem m_429 : (Jvm.Cond.methodLink "FermionMapsLaw" (25 : Nat) ({ cls := "FermionMapsModel", name := "<init>", desc := "()V" } : Jvm.MethodName)) ∈ T0 := T0_tb (i := 429) (by decide +kernel) (by decide +kernel)
theorem m_430 : (Jvm.Cond.instanceMethod ({ cls := "FermionMapsModel", name := "<init>", desc := "()V" } : Jvm.MethodName)) ∈ T0 := T0_tb (i := 430) (by decide +kernel) (by decide +kernel)
theorem m_431 : (Jvm.Cond.code ({ cls := "FermionMapsModel", name := "<init>", desc := "()V" } : Jvm.MethodName) prog_6_method_1_code (1 : Nat) (Option.none : Option Jvm.ClassFile.FieldType)) ∈ T0 := T0_tb (i := 431) (by decide +kernel) (by decide +kernel)
theorem m_432 : (Jvm.Cond.methodLink "FermionMapsModel" (1 : Nat) ({ cls := "java/lang/Object", name := "<init>", desc := "()V" } : Jvm.MethodName)) ∈ T0 := T0_tb (i := 432) (by decide +kernel) (by decide +kernel)
theorem m_433 : (Jvm.Cond.constant "FermionMapsModel" (29 : Nat) (65536 : Int32)) ∈ T0 := T0_tb (i := 433) (by decide +kernel) (by decide +kernel)
theorem m_434 : (Jvm.Cond.methodLink "FermionMapsModel" (54 : Nat) ({ cls := "FermionMapsModel", name := "start", desc := "(I)V" } : Jvm.MethodName)) ∈ T0 := T0_tb (i := 434) (by decide +kernel) (by decide +kernel)
theorem m_436 : (Jvm.Cond.instanceMethod ({ cls := "FermionMapsModel", name := "start", desc := "(I)V" } : Jvm.MethodName)) ∈ T0 := T0_tb (i := 436) (by decide +kernel) (by decide +kernel)
theorem m_437 : (Jvm.Cond.code ({ cls := "FermionMapsModel", name := "start", desc := "(I)V" } : Jvm.MethodName) prog_6_method_6_code (3 : Nat) (Option.none : Option Jvm.ClassFile.FieldType)) ∈ T0 := T0_tb (i := 437) (by decide +kernel) (by decide +kernel)
theorem m_438 : (Jvm.Cond.methodLink "FermionMapsModel" (75 : Nat) ({ cls := "FermionMapsModel", name := "writeAll", desc := "()V" } : Jvm.MethodName)) ∈ T0 := T0_tb (i := 438) (by decide +kernel) (by decide +kernel)
theorem m_440 : (Jvm.Cond.instanceMethod ({ cls := "FermionMapsModel", name := "writeAll", desc := "()V" } : Jvm.MethodName)) ∈ T0 := T0_tb (i := 440) (by decide +kernel) (by decide +kernel)
theorem m_441 : (Jvm.Cond.code ({ cls := "FermionMapsModel", name := "writeAll", desc := "()V" } : Jvm.MethodName) prog_6_method_23_code (2 : Nat) (Option.none : Option Jvm.ClassFile.FieldType)) ∈ T0 := T0_tb (i := 441) (by decide +kernel) (by decide +kernel)
theorem m_442 : (Jvm.Cond.methodLink "FermionMapsModel" (65 : Nat) ({ cls := "FermionMapsModel", name := "states", desc := "()I" } : Jvm.MethodName)) ∈ T0 := T0_tb (i := 442) (by decide +kernel) (by decide +kernel)
theorem m_444 : (Jvm.Cond.instanceMethod ({ cls := "FermionMapsModel", name := "states", desc := "()I" } : Jvm.MethodName)) ∈ T0 := T0_tb (i := 444) (by decide +kernel) (by decide +kernel)
theorem m_445 : (Jvm.Cond.code ({ cls := "FermionMapsModel", name := "states", desc := "()I" } : Jvm.MethodName) prog_6_method_4_code (1 : Nat) (Option.some Jvm.ClassFile.FieldType.int)) ∈ T0 := T0_tb (i := 445) (by decide +kernel) (by decide +kernel)
theorem m_446 : (Jvm.Cond.methodLink "FermionMapsModel" (136 : Nat) ({ cls := "FermionMapsModel", name := "write", desc := "(II)I" } : Jvm.MethodName)) ∈ T0 := T0_tb (i := 446) (by decide +kernel) (by decide +kernel)
theorem m_448 : (Jvm.Cond.instanceMethod ({ cls := "FermionMapsModel", name := "write", desc := "(II)I" } : Jvm.MethodName)) ∈ T0 := T0_tb (i := 448) (by decide +kernel) (by decide +kernel)
theorem m_449 : (Jvm.Cond.code ({ cls := "FermionMapsModel", name := "write", desc := "(II)I" } : Jvm.MethodName) prog_6_method_22_code (5 : Nat) (Option.some Jvm.ClassFile.FieldType.int)) ∈ T0 := T0_tb (i := 449) (by decide +kernel) (by decide +kernel)
theorem m_450 : (Jvm.Cond.methodLink "FermionMapsModel" (132 : Nat) ({ cls := "FermionMapsModel", name := "setOf", desc := "(II)I" } : Jvm.MethodName)) ∈ T0 := T0_tb (i := 450) (by decide +kernel) (by decide +kernel)
theorem m_452 : (Jvm.Cond.instanceMethod ({ cls := "FermionMapsModel", name := "setOf", desc := "(II)I" } : Jvm.MethodName)) ∈ T0 := T0_tb (i := 452) (by decide +kernel) (by decide +kernel)
theorem m_453 : (Jvm.Cond.code ({ cls := "FermionMapsModel", name := "setOf", desc := "(II)I" } : Jvm.MethodName) prog_6_method_21_code (4 : Nat) (Option.some Jvm.ClassFile.FieldType.int)) ∈ T0 := T0_tb (i := 453) (by decide +kernel) (by decide +kernel)
theorem m_454 : (Jvm.Cond.methodLink "FermionMapsModel" (81 : Nat) ({ cls := "FermionMapsModel", name := "ones", desc := "(I)I" } : Jvm.MethodName)) ∈ T0 := T0_tb (i := 454) (by decide +kernel) (by decide +kernel)
theorem m_455 : (Jvm.Cond.static ({ cls := "FermionMapsModel", name := "ones", desc := "(I)I" } : Jvm.MethodName)) ∈ T0 := T0_tb (i := 455) (by decide +kernel) (by decide +kernel)
theorem m_456 : (Jvm.Cond.code ({ cls := "FermionMapsModel", name := "ones", desc := "(I)I" } : Jvm.MethodName) prog_6_method_8_code (3 : Nat) (Option.some Jvm.ClassFile.FieldType.int)) ∈ T0 := T0_tb (i := 456) (by decide +kernel) (by decide +kernel)
theorem m_457 : (Jvm.Cond.fieldLink "FermionMapsModel" (58 : Nat) "FermionMapsModel" "thrown" "I") ∈ T0 := T0_tb (i := 457) (by decide +kernel) (by decide +kernel)
theorem m_458 : (Jvm.Cond.fieldLink "FermionMapsModel" (62 : Nat) "FermionMapsModel" "modes" "I") ∈ T0 := T0_tb (i := 458) (by decide +kernel) (by decide +kernel)
theorem m_459 : (Jvm.Cond.fieldLink "FermionMapsModel" (69 : Nat) "FermionMapsModel" "products" "I") ∈ T0 := T0_tb (i := 459) (by decide +kernel) (by decide +kernel)
theorem m_460 : (Jvm.Cond.fieldLink "FermionMapsModel" (7 : Nat) "FermionMapsModel" "upsOf" "[I") ∈ T0 := T0_tb (i := 460) (by decide +kernel) (by decide +kernel)
theorem m_461 : (Jvm.Cond.fieldLink "FermionMapsModel" (13 : Nat) "FermionMapsModel" "downsOf" "[I") ∈ T0 := T0_tb (i := 461) (by decide +kernel) (by decide +kernel)
theorem m_462 : (Jvm.Cond.fieldLink "FermionMapsModel" (16 : Nat) "FermionMapsModel" "numberOf" "[J") ∈ T0 := T0_tb (i := 462) (by decide +kernel) (by decide +kernel)
theorem m_463 : (Jvm.Cond.fieldLink "FermionMapsModel" (72 : Nat) "FermionMapsModel" "wayKind" "I") ∈ T0 := T0_tb (i := 463) (by decide +kernel) (by decide +kernel)
theorem m_464 : (Jvm.Cond.fieldLink "FermionMapsModel" (20 : Nat) "FermionMapsModel" "rowOf" "[I") ∈ T0 := T0_tb (i := 464) (by decide +kernel) (by decide +kernel)
theorem m_465 : (Jvm.Cond.fieldLink "FermionMapsModel" (23 : Nat) "FermionMapsModel" "writes" "[I") ∈ T0 := T0_tb (i := 465) (by decide +kernel) (by decide +kernel)
theorem m_466 : (Jvm.Cond.fieldLink "FermionMapsModel" (26 : Nat) "FermionMapsModel" "reads" "[I") ∈ T0 := T0_tb (i := 466) (by decide +kernel) (by decide +kernel)
theorem m_467 : (Jvm.Cond.fieldLink "FermionMapsModel" (103 : Nat) "FermionMapsModel" "isImageKnown" "Z") ∈ T0 := T0_tb (i := 467) (by decide +kernel) (by decide +kernel)
theorem m_468 : (Jvm.Cond.fieldLink "FermionMapsModel" (78 : Nat) "FermionMapsModel" "madeState" "I") ∈ T0 := T0_tb (i := 468) (by decide +kernel) (by decide +kernel)
theorem m_469 : (Jvm.Cond.fieldLink "FermionMapsModel" (85 : Nat) "FermionMapsModel" "madeSign" "I") ∈ T0 := T0_tb (i := 469) (by decide +kernel) (by decide +kernel)
theorem m_470 : (Jvm.Cond.fieldLink "FermionMapsModel" (30 : Nat) "FermionMapsModel" "matrix" "[J") ∈ T0 := T0_tb (i := 470) (by decide +kernel) (by decide +kernel)
theorem m_471 : (Jvm.Cond.fieldLink "FermionMapsModel" (33 : Nat) "FermionMapsModel" "other" "[J") ∈ T0 := T0_tb (i := 471) (by decide +kernel) (by decide +kernel)
theorem m_472 : (Jvm.Cond.fieldLink "FermionMapsModel" (96 : Nat) "FermionMapsModel" "newMany" "I") ∈ T0 := T0_tb (i := 472) (by decide +kernel) (by decide +kernel)
theorem m_473 : (Jvm.Cond.fieldLink "FermionMapsModel" (36 : Nat) "FermionMapsModel" "newUps" "[I") ∈ T0 := T0_tb (i := 473) (by decide +kernel) (by decide +kernel)
theorem m_474 : (Jvm.Cond.fieldLink "FermionMapsModel" (39 : Nat) "FermionMapsModel" "newDowns" "[I") ∈ T0 := T0_tb (i := 474) (by decide +kernel) (by decide +kernel)
theorem m_475 : (Jvm.Cond.fieldLink "FermionMapsModel" (42 : Nat) "FermionMapsModel" "newNumber" "[J") ∈ T0 := T0_tb (i := 475) (by decide +kernel) (by decide +kernel)
theorem m_476 : (Jvm.Cond.fieldLink "FermionMapsModel" (45 : Nat) "FermionMapsModel" "found" "[J") ∈ T0 := T0_tb (i := 476) (by decide +kernel) (by decide +kernel)
theorem m_477 : (Jvm.Cond.fieldLink "FermionMapsModel" (48 : Nat) "FermionMapsModel" "image" "[J") ∈ T0 := T0_tb (i := 477) (by decide +kernel) (by decide +kernel)
theorem m_478 : (Jvm.Cond.fieldLink "FermionMapsModel" (51 : Nat) "FermionMapsModel" "imagePlace" "[I") ∈ T0 := T0_tb (i := 478) (by decide +kernel) (by decide +kernel)
theorem m_479 : (Jvm.Cond.fieldLink "FermionMapsModel" (153 : Nat) "FermionMapsModel" "imagePower" "I") ∈ T0 := T0_tb (i := 479) (by decide +kernel) (by decide +kernel)
theorem m_480 : (Jvm.Cond.fieldLink "FermionMapsModel" (139 : Nat) "FermionMapsModel" "imageMany" "I") ∈ T0 := T0_tb (i := 480) (by decide +kernel) (by decide +kernel)
theorem m_481 : (Jvm.Cond.fieldLink "FermionMapsModel" (144 : Nat) "FermionMapsModel" "imageWires" "I") ∈ T0 := T0_tb (i := 481) (by decide +kernel) (by decide +kernel)
theorem m_533 : (Jvm.Cond.methodLink "FermionMapsLaw" (51 : Nat) ({ cls := "FermionMapsModel", name := "thrown", desc := "()I" } : Jvm.MethodName)) ∈ T0 := T0_tb (i := 533) (by decide +kernel) (by decide +kernel)
theorem m_534 : (Jvm.Cond.instanceMethod ({ cls := "FermionMapsModel", name := "thrown", desc := "()I" } : Jvm.MethodName)) ∈ T0 := T0_tb (i := 534) (by decide +kernel) (by decide +kernel)
theorem m_535 : (Jvm.Cond.selects "FermionMapsModel" ({ cls := "FermionMapsModel", name := "thrown", desc := "()I" } : Jvm.MethodName) ({ cls := "FermionMapsModel", name := "thrown", desc := "()I" } : Jvm.MethodName)) ∈ T0 := T0_tb (i := 535) (by decide +kernel) (by decide +kernel)
theorem m_536 : (Jvm.Cond.code ({ cls := "FermionMapsModel", name := "thrown", desc := "()I" } : Jvm.MethodName) prog_6_method_2_code (1 : Nat) (Option.some Jvm.ClassFile.FieldType.int)) ∈ T0 := T0_tb (i := 536) (by decide +kernel) (by decide +kernel)
theorem m_537 : (Jvm.Cond.methodLink "FermionMapsLaw" (30 : Nat) ({ cls := "FermionMapsModel", name := "begin", desc := "(I)Z" } : Jvm.MethodName)) ∈ T0 := T0_tb (i := 537) (by decide +kernel) (by decide +kernel)
theorem m_538 : (Jvm.Cond.instanceMethod ({ cls := "FermionMapsModel", name := "begin", desc := "(I)Z" } : Jvm.MethodName)) ∈ T0 := T0_tb (i := 538) (by decide +kernel) (by decide +kernel)
theorem m_539 : (Jvm.Cond.selects "FermionMapsModel" ({ cls := "FermionMapsModel", name := "begin", desc := "(I)Z" } : Jvm.MethodName) ({ cls := "FermionMapsModel", name := "begin", desc := "(I)Z" } : Jvm.MethodName)) ∈ T0 := T0_tb (i := 539) (by decide +kernel) (by decide +kernel)
theorem m_540 : (Jvm.Cond.code ({ cls := "FermionMapsModel", name := "begin", desc := "(I)Z" } : Jvm.MethodName) prog_6_method_7_code (2 : Nat) (Option.some Jvm.ClassFile.FieldType.boolean)) ∈ T0 := T0_tb (i := 540) (by decide +kernel) (by decide +kernel)
theorem m_541 : (Jvm.Cond.methodLink "FermionMapsLaw" (35 : Nat) ({ cls := "FermionMapsModel", name := "add", desc := "(III)I" } : Jvm.MethodName)) ∈ T0 := T0_tb (i := 541) (by decide +kernel) (by decide +kernel)
theorem m_542 : (Jvm.Cond.instanceMethod ({ cls := "FermionMapsModel", name := "add", desc := "(III)I" } : Jvm.MethodName)) ∈ T0 := T0_tb (i := 542) (by decide +kernel) (by decide +kernel)
theorem m_543 : (Jvm.Cond.selects "FermionMapsModel" ({ cls := "FermionMapsModel", name := "add", desc := "(III)I" } : Jvm.MethodName) ({ cls := "FermionMapsModel", name := "add", desc := "(III)I" } : Jvm.MethodName)) ∈ T0 := T0_tb (i := 543) (by decide +kernel) (by decide +kernel)
theorem m_544 : (Jvm.Cond.code ({ cls := "FermionMapsModel", name := "add", desc := "(III)I" } : Jvm.MethodName) prog_6_method_14_code (9 : Nat) (Option.some Jvm.ClassFile.FieldType.int)) ∈ T0 := T0_tb (i := 544) (by decide +kernel) (by decide +kernel)
theorem m_545 : (Jvm.Cond.methodLink "FermionMapsModel" (107 : Nat) ({ cls := "FermionMapsModel", name := "isState", desc := "(I)Z" } : Jvm.MethodName)) ∈ T0 := T0_tb (i := 545) (by decide +kernel) (by decide +kernel)
theorem m_547 : (Jvm.Cond.instanceMethod ({ cls := "FermionMapsModel", name := "isState", desc := "(I)Z" } : Jvm.MethodName)) ∈ T0 := T0_tb (i := 547) (by decide +kernel) (by decide +kernel)
theorem m_548 : (Jvm.Cond.code ({ cls := "FermionMapsModel", name := "isState", desc := "(I)Z" } : Jvm.MethodName) prog_6_method_5_code (2 : Nat) (Option.some Jvm.ClassFile.FieldType.boolean)) ∈ T0 := T0_tb (i := 548) (by decide +kernel) (by decide +kernel)
theorem m_549 : (Jvm.Cond.constantLong "FermionMapsModel" (99 : Nat) (1000000 : Int64)) ∈ T0 := T0_tb (i := 549) (by decide +kernel) (by decide +kernel)
theorem m_550 : (Jvm.Cond.constantLong "FermionMapsModel" (101 : Nat) (-1000000 : Int64)) ∈ T0 := T0_tb (i := 550) (by decide +kernel) (by decide +kernel)
theorem m_551 : (Jvm.Cond.methodLink "FermionMapsModel" (111 : Nat) ({ cls := "FermionMapsModel", name := "put", desc := "(IIJ)Z" } : Jvm.MethodName)) ∈ T0 := T0_tb (i := 551) (by decide +kernel) (by decide +kernel)
theorem m_553 : (Jvm.Cond.instanceMethod ({ cls := "FermionMapsModel", name := "put", desc := "(IIJ)Z" } : Jvm.MethodName)) ∈ T0 := T0_tb (i := 553) (by decide +kernel) (by decide +kernel)
theorem m_554 : (Jvm.Cond.code ({ cls := "FermionMapsModel", name := "put", desc := "(IIJ)Z" } : Jvm.MethodName) prog_6_method_12_code (5 : Nat) (Option.some Jvm.ClassFile.FieldType.boolean)) ∈ T0 := T0_tb (i := 554) (by decide +kernel) (by decide +kernel)
theorem m_555 : (Jvm.Cond.methodLink "FermionMapsModel" (115 : Nat) ({ cls := "FermionMapsModel", name := "take", desc := "()I" } : Jvm.MethodName)) ∈ T0 := T0_tb (i := 555) (by decide +kernel) (by decide +kernel)
theorem m_557 : (Jvm.Cond.instanceMethod ({ cls := "FermionMapsModel", name := "take", desc := "()I" } : Jvm.MethodName)) ∈ T0 := T0_tb (i := 557) (by decide +kernel) (by decide +kernel)
theorem m_558 : (Jvm.Cond.code ({ cls := "FermionMapsModel", name := "take", desc := "()I" } : Jvm.MethodName) prog_6_method_13_code (2 : Nat) (Option.some Jvm.ClassFile.FieldType.int)) ∈ T0 := T0_tb (i := 558) (by decide +kernel) (by decide +kernel)
theorem m_559 : (Jvm.Cond.methodLink "FermionMapsLaw" (40 : Nat) ({ cls := "FermionMapsModel", name := "ladder", desc := "(IZZ)I" } : Jvm.MethodName)) ∈ T0 := T0_tb (i := 559) (by decide +kernel) (by decide +kernel)
theorem m_560 : (Jvm.Cond.instanceMethod ({ cls := "FermionMapsModel", name := "ladder", desc := "(IZZ)I" } : Jvm.MethodName)) ∈ T0 := T0_tb (i := 560) (by decide +kernel) (by decide +kernel)
theorem m_561 : (Jvm.Cond.selects "FermionMapsModel" ({ cls := "FermionMapsModel", name := "ladder", desc := "(IZZ)I" } : Jvm.MethodName) ({ cls := "FermionMapsModel", name := "ladder", desc := "(IZZ)I" } : Jvm.MethodName)) ∈ T0 := T0_tb (i := 561) (by decide +kernel) (by decide +kernel)
theorem m_562 : (Jvm.Cond.code ({ cls := "FermionMapsModel", name := "ladder", desc := "(IZZ)I" } : Jvm.MethodName) prog_6_method_17_code (4 : Nat) (Option.some Jvm.ClassFile.FieldType.int)) ∈ T0 := T0_tb (i := 562) (by decide +kernel) (by decide +kernel)
theorem m_563 : (Jvm.Cond.methodLink "FermionMapsModel" (118 : Nat) ({ cls := "FermionMapsModel", name := "fillMatrix", desc := "()V" } : Jvm.MethodName)) ∈ T0 := T0_tb (i := 563) (by decide +kernel) (by decide +kernel)
theorem m_565 : (Jvm.Cond.instanceMethod ({ cls := "FermionMapsModel", name := "fillMatrix", desc := "()V" } : Jvm.MethodName)) ∈ T0 := T0_tb (i := 565) (by decide +kernel) (by decide +kernel)
theorem m_566 : (Jvm.Cond.code ({ cls := "FermionMapsModel", name := "fillMatrix", desc := "()V" } : Jvm.MethodName) prog_6_method_11_code (3 : Nat) (Option.none : Option Jvm.ClassFile.FieldType)) ∈ T0 := T0_tb (i := 566) (by decide +kernel) (by decide +kernel)
theorem m_567 : (Jvm.Cond.methodLink "FermionMapsModel" (92 : Nat) ({ cls := "FermionMapsModel", name := "make", desc := "(III)Z" } : Jvm.MethodName)) ∈ T0 := T0_tb (i := 567) (by decide +kernel) (by decide +kernel)
theorem m_569 : (Jvm.Cond.instanceMethod ({ cls := "FermionMapsModel", name := "make", desc := "(III)Z" } : Jvm.MethodName)) ∈ T0 := T0_tb (i := 569) (by decide +kernel) (by decide +kernel)
theorem m_570 : (Jvm.Cond.code ({ cls := "FermionMapsModel", name := "make", desc := "(III)Z" } : Jvm.MethodName) prog_6_method_10_code (6 : Nat) (Option.some Jvm.ClassFile.FieldType.boolean)) ∈ T0 := T0_tb (i := 570) (by decide +kernel) (by decide +kernel)
theorem m_571 : (Jvm.Cond.methodLink "FermionMapsModel" (88 : Nat) ({ cls := "FermionMapsModel", name := "climb", desc := "(IZ)Z" } : Jvm.MethodName)) ∈ T0 := T0_tb (i := 571) (by decide +kernel) (by decide +kernel)
theorem m_573 : (Jvm.Cond.instanceMethod ({ cls := "FermionMapsModel", name := "climb", desc := "(IZ)Z" } : Jvm.MethodName)) ∈ T0 := T0_tb (i := 573) (by decide +kernel) (by decide +kernel)
theorem m_574 : (Jvm.Cond.code ({ cls := "FermionMapsModel", name := "climb", desc := "(IZ)Z" } : Jvm.MethodName) prog_6_method_9_code (3 : Nat) (Option.some Jvm.ClassFile.FieldType.boolean)) ∈ T0 := T0_tb (i := 574) (by decide +kernel) (by decide +kernel)
theorem m_575 : (Jvm.Cond.methodLink "FermionMapsModel" (121 : Nat) ({ cls := "FermionMapsModel", name := "multiply", desc := "(IZZ)V" } : Jvm.MethodName)) ∈ T0 := T0_tb (i := 575) (by decide +kernel) (by decide +kernel)
theorem m_577 : (Jvm.Cond.instanceMethod ({ cls := "FermionMapsModel", name := "multiply", desc := "(IZZ)V" } : Jvm.MethodName)) ∈ T0 := T0_tb (i := 577) (by decide +kernel) (by decide +kernel)
theorem m_578 : (Jvm.Cond.code ({ cls := "FermionMapsModel", name := "multiply", desc := "(IZZ)V" } : Jvm.MethodName) prog_6_method_15_code (6 : Nat) (Option.none : Option Jvm.ClassFile.FieldType)) ∈ T0 := T0_tb (i := 578) (by decide +kernel) (by decide +kernel)
theorem m_579 : (Jvm.Cond.methodLink "FermionMapsModel" (125 : Nat) ({ cls := "FermionMapsModel", name := "readOff", desc := "()Z" } : Jvm.MethodName)) ∈ T0 := T0_tb (i := 579) (by decide +kernel) (by decide +kernel)
theorem m_581 : (Jvm.Cond.instanceMethod ({ cls := "FermionMapsModel", name := "readOff", desc := "()Z" } : Jvm.MethodName)) ∈ T0 := T0_tb (i := 581) (by decide +kernel) (by decide +kernel)
theorem m_582 : (Jvm.Cond.code ({ cls := "FermionMapsModel", name := "readOff", desc := "()Z" } : Jvm.MethodName) prog_6_method_16_code (8 : Nat) (Option.some Jvm.ClassFile.FieldType.boolean)) ∈ T0 := T0_tb (i := 582) (by decide +kernel) (by decide +kernel)
theorem m_583 : (Jvm.Cond.methodLink "FermionMapsLaw" (44 : Nat) ({ cls := "FermionMapsModel", name := "clear", desc := "()V" } : Jvm.MethodName)) ∈ T0 := T0_tb (i := 583) (by decide +kernel) (by decide +kernel)
theorem m_584 : (Jvm.Cond.instanceMethod ({ cls := "FermionMapsModel", name := "clear", desc := "()V" } : Jvm.MethodName)) ∈ T0 := T0_tb (i := 584) (by decide +kernel) (by decide +kernel)
theorem m_585 : (Jvm.Cond.selects "FermionMapsModel" ({ cls := "FermionMapsModel", name := "clear", desc := "()V" } : Jvm.MethodName) ({ cls := "FermionMapsModel", name := "clear", desc := "()V" } : Jvm.MethodName)) ∈ T0 := T0_tb (i := 585) (by decide +kernel) (by decide +kernel)
theorem m_586 : (Jvm.Cond.code ({ cls := "FermionMapsModel", name := "clear", desc := "()V" } : Jvm.MethodName) prog_6_method_18_code (1 : Nat) (Option.none : Option Jvm.ClassFile.FieldType)) ∈ T0 := T0_tb (i := 586) (by decide +kernel) (by decide +kernel)
theorem m_587 : (Jvm.Cond.methodLink "FermionMapsLaw" (50 : Nat) ({ cls := "FermionMapsModel", name := "product", desc := "(II)I" } : Jvm.MethodName)) ∈ T0 := T0_tb (i := 587) (by decide +kernel) (by decide +kernel)
theorem m_588 : (Jvm.Cond.instanceMethod ({ cls := "FermionMapsModel", name := "product", desc := "(II)I" } : Jvm.MethodName)) ∈ T0 := T0_tb (i := 588) (by decide +kernel) (by decide +kernel)
theorem m_589 : (Jvm.Cond.selects "FermionMapsModel" ({ cls := "FermionMapsModel", name := "product", desc := "(II)I" } : Jvm.MethodName) ({ cls := "FermionMapsModel", name := "product", desc := "(II)I" } : Jvm.MethodName)) ∈ T0 := T0_tb (i := 589) (by decide +kernel) (by decide +kernel)
theorem m_590 : (Jvm.Cond.code ({ cls := "FermionMapsModel", name := "product", desc := "(II)I" } : Jvm.MethodName) prog_6_method_19_code (3 : Nat) (Option.some Jvm.ClassFile.FieldType.int)) ∈ T0 := T0_tb (i := 590) (by decide +kernel) (by decide +kernel)
theorem m_591 : (Jvm.Cond.methodLink "FermionMapsModel" (129 : Nat) ({ cls := "FermionMapsModel", name := "raise", desc := "()I" } : Jvm.MethodName)) ∈ T0 := T0_tb (i := 591) (by decide +kernel) (by decide +kernel)
theorem m_593 : (Jvm.Cond.instanceMethod ({ cls := "FermionMapsModel", name := "raise", desc := "()I" } : Jvm.MethodName)) ∈ T0 := T0_tb (i := 593) (by decide +kernel) (by decide +kernel)
theorem m_594 : (Jvm.Cond.code ({ cls := "FermionMapsModel", name := "raise", desc := "()I" } : Jvm.MethodName) prog_6_method_3_code (1 : Nat) (Option.some Jvm.ClassFile.FieldType.int)) ∈ T0 := T0_tb (i := 594) (by decide +kernel) (by decide +kernel)
theorem m_595 : (Jvm.Cond.methodLink "FermionMapsLaw" (57 : Nat) ({ cls := "FermionMapsModel", name := "makes", desc := "(II)J" } : Jvm.MethodName)) ∈ T0 := T0_tb (i := 595) (by decide +kernel) (by decide +kernel)
theorem m_596 : (Jvm.Cond.instanceMethod ({ cls := "FermionMapsModel", name := "makes", desc := "(II)J" } : Jvm.MethodName)) ∈ T0 := T0_tb (i := 596) (by decide +kernel) (by decide +kernel)
theorem m_597 : (Jvm.Cond.selects "FermionMapsModel" ({ cls := "FermionMapsModel", name := "makes", desc := "(II)J" } : Jvm.MethodName) ({ cls := "FermionMapsModel", name := "makes", desc := "(II)J" } : Jvm.MethodName)) ∈ T0 := T0_tb (i := 597) (by decide +kernel) (by decide +kernel)
theorem m_598 : (Jvm.Cond.code ({ cls := "FermionMapsModel", name := "makes", desc := "(II)J" } : Jvm.MethodName) prog_6_method_20_code (6 : Nat) (Option.some Jvm.ClassFile.FieldType.long)) ∈ T0 := T0_tb (i := 598) (by decide +kernel) (by decide +kernel)
theorem m_599 : (Jvm.Cond.methodLink "FermionMapsLaw" (61 : Nat) ({ cls := "FermionMapsModel", name := "way", desc := "(I)Z" } : Jvm.MethodName)) ∈ T0 := T0_tb (i := 599) (by decide +kernel) (by decide +kernel)
theorem m_600 : (Jvm.Cond.instanceMethod ({ cls := "FermionMapsModel", name := "way", desc := "(I)Z" } : Jvm.MethodName)) ∈ T0 := T0_tb (i := 600) (by decide +kernel) (by decide +kernel)
theorem m_601 : (Jvm.Cond.selects "FermionMapsModel" ({ cls := "FermionMapsModel", name := "way", desc := "(I)Z" } : Jvm.MethodName) ({ cls := "FermionMapsModel", name := "way", desc := "(I)Z" } : Jvm.MethodName)) ∈ T0 := T0_tb (i := 601) (by decide +kernel) (by decide +kernel)
theorem m_602 : (Jvm.Cond.code ({ cls := "FermionMapsModel", name := "way", desc := "(I)Z" } : Jvm.MethodName) prog_6_method_24_code (3 : Nat) (Option.some Jvm.ClassFile.FieldType.boolean)) ∈ T0 := T0_tb (i := 602) (by decide +kernel) (by decide +kernel)
theorem m_603 : (Jvm.Cond.methodLink "FermionMapsLaw" (66 : Nat) ({ cls := "FermionMapsModel", name := "row", desc := "(II)Z" } : Jvm.MethodName)) ∈ T0 := T0_tb (i := 603) (by decide +kernel) (by decide +kernel)
theorem m_604 : (Jvm.Cond.instanceMethod ({ cls := "FermionMapsModel", name := "row", desc := "(II)Z" } : Jvm.MethodName)) ∈ T0 := T0_tb (i := 604) (by decide +kernel) (by decide +kernel)
theorem m_605 : (Jvm.Cond.selects "FermionMapsModel" ({ cls := "FermionMapsModel", name := "row", desc := "(II)Z" } : Jvm.MethodName) ({ cls := "FermionMapsModel", name := "row", desc := "(II)Z" } : Jvm.MethodName)) ∈ T0 := T0_tb (i := 605) (by decide +kernel) (by decide +kernel)
theorem m_606 : (Jvm.Cond.code ({ cls := "FermionMapsModel", name := "row", desc := "(II)Z" } : Jvm.MethodName) prog_6_method_25_code (3 : Nat) (Option.some Jvm.ClassFile.FieldType.boolean)) ∈ T0 := T0_tb (i := 606) (by decide +kernel) (by decide +kernel)
theorem m_607 : (Jvm.Cond.methodLink "FermionMapsLaw" (71 : Nat) ({ cls := "FermionMapsModel", name := "written", desc := "(I)I" } : Jvm.MethodName)) ∈ T0 := T0_tb (i := 607) (by decide +kernel) (by decide +kernel)
theorem m_608 : (Jvm.Cond.instanceMethod ({ cls := "FermionMapsModel", name := "written", desc := "(I)I" } : Jvm.MethodName)) ∈ T0 := T0_tb (i := 608) (by decide +kernel) (by decide +kernel)
theorem m_609 : (Jvm.Cond.selects "FermionMapsModel" ({ cls := "FermionMapsModel", name := "written", desc := "(I)I" } : Jvm.MethodName) ({ cls := "FermionMapsModel", name := "written", desc := "(I)I" } : Jvm.MethodName)) ∈ T0 := T0_tb (i := 609) (by decide +kernel) (by decide +kernel)
theorem m_610 : (Jvm.Cond.code ({ cls := "FermionMapsModel", name := "written", desc := "(I)I" } : Jvm.MethodName) prog_6_method_26_code (2 : Nat) (Option.some Jvm.ClassFile.FieldType.int)) ∈ T0 := T0_tb (i := 610) (by decide +kernel) (by decide +kernel)
theorem m_611 : (Jvm.Cond.methodLink "FermionMapsLaw" (75 : Nat) ({ cls := "FermionMapsModel", name := "read", desc := "(I)I" } : Jvm.MethodName)) ∈ T0 := T0_tb (i := 611) (by decide +kernel) (by decide +kernel)
theorem m_612 : (Jvm.Cond.instanceMethod ({ cls := "FermionMapsModel", name := "read", desc := "(I)I" } : Jvm.MethodName)) ∈ T0 := T0_tb (i := 612) (by decide +kernel) (by decide +kernel)
theorem m_613 : (Jvm.Cond.selects "FermionMapsModel" ({ cls := "FermionMapsModel", name := "read", desc := "(I)I" } : Jvm.MethodName) ({ cls := "FermionMapsModel", name := "read", desc := "(I)I" } : Jvm.MethodName)) ∈ T0 := T0_tb (i := 613) (by decide +kernel) (by decide +kernel)
theorem m_614 : (Jvm.Cond.code ({ cls := "FermionMapsModel", name := "read", desc := "(I)I" } : Jvm.MethodName) prog_6_method_27_code (2 : Nat) (Option.some Jvm.ClassFile.FieldType.int)) ∈ T0 := T0_tb (i := 614) (by decide +kernel) (by decide +kernel)
theorem m_615 : (Jvm.Cond.methodLink "FermionMapsLaw" (78 : Nat) ({ cls := "FermionMapsModel", name := "image", desc := "(II)J" } : Jvm.MethodName)) ∈ T0 := T0_tb (i := 615) (by decide +kernel) (by decide +kernel)
theorem m_616 : (Jvm.Cond.instanceMethod ({ cls := "FermionMapsModel", name := "image", desc := "(II)J" } : Jvm.MethodName)) ∈ T0 := T0_tb (i := 616) (by decide +kernel) (by decide +kernel)
theorem m_617 : (Jvm.Cond.selects "FermionMapsModel" ({ cls := "FermionMapsModel", name := "image", desc := "(II)J" } : Jvm.MethodName) ({ cls := "FermionMapsModel", name := "image", desc := "(II)J" } : Jvm.MethodName)) ∈ T0 := T0_tb (i := 617) (by decide +kernel) (by decide +kernel)
theorem m_618 : (Jvm.Cond.code ({ cls := "FermionMapsModel", name := "image", desc := "(II)J" } : Jvm.MethodName) prog_6_method_32_code (4 : Nat) (Option.some Jvm.ClassFile.FieldType.long)) ∈ T0 := T0_tb (i := 618) (by decide +kernel) (by decide +kernel)
theorem m_619 : (Jvm.Cond.methodLink "FermionMapsModel" (159 : Nat) ({ cls := "FermionMapsModel", name := "findImage", desc := "()V" } : Jvm.MethodName)) ∈ T0 := T0_tb (i := 619) (by decide +kernel) (by decide +kernel)
theorem m_621 : (Jvm.Cond.instanceMethod ({ cls := "FermionMapsModel", name := "findImage", desc := "()V" } : Jvm.MethodName)) ∈ T0 := T0_tb (i := 621) (by decide +kernel) (by decide +kernel)
theorem m_622 : (Jvm.Cond.code ({ cls := "FermionMapsModel", name := "findImage", desc := "()V" } : Jvm.MethodName) prog_6_method_31_code (3 : Nat) (Option.none : Option Jvm.ClassFile.FieldType)) ∈ T0 := T0_tb (i := 622) (by decide +kernel) (by decide +kernel)
theorem m_623 : (Jvm.Cond.methodLink "FermionMapsModel" (147 : Nat) ({ cls := "FermionMapsModel", name := "addUp", desc := "(I)V" } : Jvm.MethodName)) ∈ T0 := T0_tb (i := 623) (by decide +kernel) (by decide +kernel)
theorem m_625 : (Jvm.Cond.instanceMethod ({ cls := "FermionMapsModel", name := "addUp", desc := "(I)V" } : Jvm.MethodName)) ∈ T0 := T0_tb (i := 625) (by decide +kernel) (by decide +kernel)
theorem m_626 : (Jvm.Cond.code ({ cls := "FermionMapsModel", name := "addUp", desc := "(I)V" } : Jvm.MethodName) prog_6_method_28_code (8 : Nat) (Option.none : Option Jvm.ClassFile.FieldType)) ∈ T0 := T0_tb (i := 626) (by decide +kernel) (by decide +kernel)
theorem m_627 : (Jvm.Cond.methodLink "FermionMapsModel" (150 : Nat) ({ cls := "FermionMapsModel", name := "listImage", desc := "()V" } : Jvm.MethodName)) ∈ T0 := T0_tb (i := 627) (by decide +kernel) (by decide +kernel)
theorem m_629 : (Jvm.Cond.instanceMethod ({ cls := "FermionMapsModel", name := "listImage", desc := "()V" } : Jvm.MethodName)) ∈ T0 := T0_tb (i := 629) (by decide +kernel) (by decide +kernel)
theorem m_630 : (Jvm.Cond.code ({ cls := "FermionMapsModel", name := "listImage", desc := "()V" } : Jvm.MethodName) prog_6_method_30_code (3 : Nat) (Option.none : Option Jvm.ClassFile.FieldType)) ∈ T0 := T0_tb (i := 630) (by decide +kernel) (by decide +kernel)
theorem m_631 : (Jvm.Cond.methodLink "FermionMapsModel" (156 : Nat) ({ cls := "FermionMapsModel", name := "isAllEven", desc := "()Z" } : Jvm.MethodName)) ∈ T0 := T0_tb (i := 631) (by decide +kernel) (by decide +kernel)
theorem m_633 : (Jvm.Cond.instanceMethod ({ cls := "FermionMapsModel", name := "isAllEven", desc := "()Z" } : Jvm.MethodName)) ∈ T0 := T0_tb (i := 633) (by decide +kernel) (by decide +kernel)
theorem m_634 : (Jvm.Cond.code ({ cls := "FermionMapsModel", name := "isAllEven", desc := "()Z" } : Jvm.MethodName) prog_6_method_29_code (2 : Nat) (Option.some Jvm.ClassFile.FieldType.boolean)) ∈ T0 := T0_tb (i := 634) (by decide +kernel) (by decide +kernel)
theorem m_635 : (Jvm.Cond.constantLong "FermionMapsModel" (142 : Nat) (2 : Int64)) ∈ T0 := T0_tb (i := 635) (by decide +kernel) (by decide +kernel)
theorem m_636 : (Jvm.Cond.methodLink "FermionMapsLaw" (82 : Nat) ({ cls := "FermionMapsModel", name := "total", desc := "(I)I" } : Jvm.MethodName)) ∈ T0 := T0_tb (i := 636) (by decide +kernel) (by decide +kernel)
theorem m_637 : (Jvm.Cond.instanceMethod ({ cls := "FermionMapsModel", name := "total", desc := "(I)I" } : Jvm.MethodName)) ∈ T0 := T0_tb (i := 637) (by decide +kernel) (by decide +kernel)
theorem m_638 : (Jvm.Cond.selects "FermionMapsModel" ({ cls := "FermionMapsModel", name := "total", desc := "(I)I" } : Jvm.MethodName) ({ cls := "FermionMapsModel", name := "total", desc := "(I)I" } : Jvm.MethodName)) ∈ T0 := T0_tb (i := 638) (by decide +kernel) (by decide +kernel)
theorem m_639 : (Jvm.Cond.code ({ cls := "FermionMapsModel", name := "total", desc := "(I)I" } : Jvm.MethodName) prog_6_method_33_code (4 : Nat) (Option.some Jvm.ClassFile.FieldType.int)) ∈ T0 := T0_tb (i := 639) (by decide +kernel) (by decide +kernel)
theorem i_Pi : ∀ w ∈ u_ws "FermionMaps$Picture" F_Pi 10, w ∈ T0 := by
  intro w hw
  have h : w ∈ [(Jvm.Cond.laysFinal "FermionMaps$Picture" "FermionMaps$Picture" "flipsOf" "[I"), (Jvm.Cond.laysFinal "FermionMaps$Picture" "FermionMaps$Picture" "termsAt" "[I"), (Jvm.Cond.laysFinal "FermionMaps$Picture" "FermionMaps$Picture" "numbers" "[J"), (Jvm.Cond.laysFinal "FermionMaps$Picture" "FermionMaps$Picture" "spread" "[I"), (Jvm.Cond.lays "FermionMaps$Picture" "FermionMaps$Picture" "drawn" "Z"), (Jvm.Cond.lays "FermionMaps$Picture" "FermionMaps$Picture" "held" "I"), (Jvm.Cond.lays "FermionMaps$Picture" "FermionMaps$Picture" "terms" "I"), (Jvm.Cond.lays "FermionMaps$Picture" "FermionMaps$Picture" "widest" "I"), (Jvm.Cond.lays "FermionMaps$Picture" "FermionMaps$Picture" "halvings" "I"), (Jvm.Cond.lays "FermionMaps$Picture" "FermionMaps$Picture" "foundSigns" "I")] := hw
  simp only [List.mem_cons, List.not_mem_nil, or_false] at h
  rcases h with rfl | rfl | rfl | rfl | rfl | rfl | rfl | rfl | rfl | rfl
  · exact T0_tb (i := 105) (by decide +kernel) (by decide +kernel)
  · exact T0_tb (i := 107) (by decide +kernel) (by decide +kernel)
  · exact T0_tb (i := 109) (by decide +kernel) (by decide +kernel)
  · exact T0_tb (i := 111) (by decide +kernel) (by decide +kernel)
  · exact T0_tb (i := 113) (by decide +kernel) (by decide +kernel)
  · exact T0_tb (i := 115) (by decide +kernel) (by decide +kernel)
  · exact T0_tb (i := 117) (by decide +kernel) (by decide +kernel)
  · exact T0_tb (i := 119) (by decide +kernel) (by decide +kernel)
  · exact T0_tb (i := 121) (by decide +kernel) (by decide +kernel)
  · exact T0_tb (i := 123) (by decide +kernel) (by decide +kernel)
theorem i_Su : ∀ w ∈ u_ws "FermionMaps$Sum" F_Su 5, w ∈ T0 := by
  intro w hw
  have h : w ∈ [(Jvm.Cond.lays "FermionMaps$Sum" "FermionMaps$Sum" "keys" "[I"), (Jvm.Cond.lays "FermionMaps$Sum" "FermionMaps$Sum" "numbers" "[I"), (Jvm.Cond.lays "FermionMaps$Sum" "FermionMaps$Sum" "spareKeys" "[I"), (Jvm.Cond.lays "FermionMaps$Sum" "FermionMaps$Sum" "spareNumbers" "[I"), (Jvm.Cond.lays "FermionMaps$Sum" "FermionMaps$Sum" "count" "I")] := hw
  simp only [List.mem_cons, List.not_mem_nil, or_false] at h
  rcases h with rfl | rfl | rfl | rfl | rfl
  · exact T0_tb (i := 35) (by decide +kernel) (by decide +kernel)
  · exact T0_tb (i := 37) (by decide +kernel) (by decide +kernel)
  · exact T0_tb (i := 39) (by decide +kernel) (by decide +kernel)
  · exact T0_tb (i := 41) (by decide +kernel) (by decide +kernel)
  · exact T0_tb (i := 43) (by decide +kernel) (by decide +kernel)
theorem i_Wi : ∀ w ∈ u_ws "FermionMaps$Wiring" F_Wi 7, w ∈ T0 := by
  intro w hw
  have h : w ∈ [(Jvm.Cond.laysFinal "FermionMaps$Wiring" "FermionMaps$Wiring" "told" "[I"), (Jvm.Cond.laysFinal "FermionMaps$Wiring" "FermionMaps$Wiring" "rows" "[I"), (Jvm.Cond.lays "FermionMaps$Wiring" "FermionMaps$Wiring" "back" "[I"), (Jvm.Cond.lays "FermionMaps$Wiring" "FermionMaps$Wiring" "spareBack" "[I"), (Jvm.Cond.laysFinal "FermionMaps$Wiring" "FermionMaps$Wiring" "left" "[I"), (Jvm.Cond.lays "FermionMaps$Wiring" "FermionMaps$Wiring" "size" "I"), (Jvm.Cond.lays "FermionMaps$Wiring" "FermionMaps$Wiring" "kind" "I")] := hw
  simp only [List.mem_cons, List.not_mem_nil, or_false] at h
  rcases h with rfl | rfl | rfl | rfl | rfl | rfl | rfl
  · exact T0_tb (i := 68) (by decide +kernel) (by decide +kernel)
  · exact T0_tb (i := 70) (by decide +kernel) (by decide +kernel)
  · exact T0_tb (i := 72) (by decide +kernel) (by decide +kernel)
  · exact T0_tb (i := 74) (by decide +kernel) (by decide +kernel)
  · exact T0_tb (i := 76) (by decide +kernel) (by decide +kernel)
  · exact T0_tb (i := 78) (by decide +kernel) (by decide +kernel)
  · exact T0_tb (i := 80) (by decide +kernel) (by decide +kernel)
theorem i_FM : ∀ w ∈ u_ws "FermionMaps" F_FM 3, w ∈ T0 := by
  intro w hw
  have h : w ∈ [(Jvm.Cond.laysFinal "FermionMaps" "FermionMaps" "sum" "LFermionMaps$Sum;"), (Jvm.Cond.laysFinal "FermionMaps" "FermionMaps" "wiring" "LFermionMaps$Wiring;"), (Jvm.Cond.laysFinal "FermionMaps" "FermionMaps" "picture" "LFermionMaps$Picture;")] := hw
  simp only [List.mem_cons, List.not_mem_nil, or_false] at h
  rcases h with rfl | rfl | rfl
  · exact T0_tb (i := 134) (by decide +kernel) (by decide +kernel)
  · exact T0_tb (i := 136) (by decide +kernel) (by decide +kernel)
  · exact T0_tb (i := 138) (by decide +kernel) (by decide +kernel)
theorem i_Mo : ∀ w ∈ u_ws "FermionMapsModel" F_Mo 25, w ∈ T0 := by
  intro w hw
  have h : w ∈ [(Jvm.Cond.lays "FermionMapsModel" "FermionMapsModel" "thrown" "I"), (Jvm.Cond.lays "FermionMapsModel" "FermionMapsModel" "modes" "I"), (Jvm.Cond.lays "FermionMapsModel" "FermionMapsModel" "products" "I"), (Jvm.Cond.laysFinal "FermionMapsModel" "FermionMapsModel" "upsOf" "[I"), (Jvm.Cond.laysFinal "FermionMapsModel" "FermionMapsModel" "downsOf" "[I"), (Jvm.Cond.laysFinal "FermionMapsModel" "FermionMapsModel" "numberOf" "[J"), (Jvm.Cond.lays "FermionMapsModel" "FermionMapsModel" "wayKind" "I"), (Jvm.Cond.laysFinal "FermionMapsModel" "FermionMapsModel" "rowOf" "[I"), (Jvm.Cond.laysFinal "FermionMapsModel" "FermionMapsModel" "writes" "[I"), (Jvm.Cond.laysFinal "FermionMapsModel" "FermionMapsModel" "reads" "[I"), (Jvm.Cond.lays "FermionMapsModel" "FermionMapsModel" "isImageKnown" "Z"), (Jvm.Cond.lays "FermionMapsModel" "FermionMapsModel" "madeState" "I"), (Jvm.Cond.lays "FermionMapsModel" "FermionMapsModel" "madeSign" "I"), (Jvm.Cond.laysFinal "FermionMapsModel" "FermionMapsModel" "matrix" "[J"), (Jvm.Cond.laysFinal "FermionMapsModel" "FermionMapsModel" "other" "[J"), (Jvm.Cond.lays "FermionMapsModel" "FermionMapsModel" "newMany" "I"), (Jvm.Cond.laysFinal "FermionMapsModel" "FermionMapsModel" "newUps" "[I"), (Jvm.Cond.laysFinal "FermionMapsModel" "FermionMapsModel" "newDowns" "[I"), (Jvm.Cond.laysFinal "FermionMapsModel" "FermionMapsModel" "newNumber" "[J"), (Jvm.Cond.laysFinal "FermionMapsModel" "FermionMapsModel" "found" "[J"), (Jvm.Cond.laysFinal "FermionMapsModel" "FermionMapsModel" "image" "[J"), (Jvm.Cond.laysFinal "FermionMapsModel" "FermionMapsModel" "imagePlace" "[I"), (Jvm.Cond.lays "FermionMapsModel" "FermionMapsModel" "imagePower" "I"), (Jvm.Cond.lays "FermionMapsModel" "FermionMapsModel" "imageMany" "I"), (Jvm.Cond.lays "FermionMapsModel" "FermionMapsModel" "imageWires" "I")] := hw
  simp only [List.mem_cons, List.not_mem_nil, or_false] at h
  rcases h with rfl | rfl | rfl | rfl | rfl | rfl | rfl | rfl | rfl | rfl | rfl | rfl | rfl | rfl | rfl | rfl | rfl | rfl | rfl | rfl | rfl | rfl | rfl | rfl | rfl
  · exact T0_tb (i := 482) (by decide +kernel) (by decide +kernel)
  · exact T0_tb (i := 484) (by decide +kernel) (by decide +kernel)
  · exact T0_tb (i := 486) (by decide +kernel) (by decide +kernel)
  · exact T0_tb (i := 488) (by decide +kernel) (by decide +kernel)
  · exact T0_tb (i := 490) (by decide +kernel) (by decide +kernel)
  · exact T0_tb (i := 492) (by decide +kernel) (by decide +kernel)
  · exact T0_tb (i := 494) (by decide +kernel) (by decide +kernel)
  · exact T0_tb (i := 496) (by decide +kernel) (by decide +kernel)
  · exact T0_tb (i := 498) (by decide +kernel) (by decide +kernel)
  · exact T0_tb (i := 500) (by decide +kernel) (by decide +kernel)
  · exact T0_tb (i := 502) (by decide +kernel) (by decide +kernel)
  · exact T0_tb (i := 504) (by decide +kernel) (by decide +kernel)
  · exact T0_tb (i := 506) (by decide +kernel) (by decide +kernel)
  · exact T0_tb (i := 508) (by decide +kernel) (by decide +kernel)
  · exact T0_tb (i := 510) (by decide +kernel) (by decide +kernel)
  · exact T0_tb (i := 512) (by decide +kernel) (by decide +kernel)
  · exact T0_tb (i := 514) (by decide +kernel) (by decide +kernel)
  · exact T0_tb (i := 516) (by decide +kernel) (by decide +kernel)
  · exact T0_tb (i := 518) (by decide +kernel) (by decide +kernel)
  · exact T0_tb (i := 520) (by decide +kernel) (by decide +kernel)
  · exact T0_tb (i := 522) (by decide +kernel) (by decide +kernel)
  · exact T0_tb (i := 524) (by decide +kernel) (by decide +kernel)
  · exact T0_tb (i := 526) (by decide +kernel) (by decide +kernel)
  · exact T0_tb (i := 528) (by decide +kernel) (by decide +kernel)
  · exact T0_tb (i := 530) (by decide +kernel) (by decide +kernel)
end
section
theorem d_In_bitCount_0 : decode prog_8_method_49_code 0 = .ok (.iload_n 0, 1) := by decide +kernel
theorem d_In_bitCount_1 : decode prog_8_method_49_code 1 = .ok (.iload_n 0, 1) := by decide +kernel
theorem d_In_bitCount_2 : decode prog_8_method_49_code 2 = .ok (.iconst 1, 1) := by decide +kernel
theorem d_In_bitCount_3 : decode prog_8_method_49_code 3 = .ok (.iushr, 1) := by decide +kernel
theorem d_In_bitCount_4 : decode prog_8_method_49_code 4 = .ok (.ldc_w 265, 3) := by decide +kernel
theorem d_In_bitCount_7 : decode prog_8_method_49_code 7 = .ok (.iand, 1) := by decide +kernel
theorem d_In_bitCount_8 : decode prog_8_method_49_code 8 = .ok (.isub, 1) := by decide +kernel
theorem d_In_bitCount_9 : decode prog_8_method_49_code 9 = .ok (.istore_n 0, 1) := by decide +kernel
theorem d_In_bitCount_10 : decode prog_8_method_49_code 10 = .ok (.iload_n 0, 1) := by decide +kernel
theorem d_In_bitCount_11 : decode prog_8_method_49_code 11 = .ok (.ldc_w 266, 3) := by decide +kernel
theorem d_In_bitCount_14 : decode prog_8_method_49_code 14 = .ok (.iand, 1) := by decide +kernel
theorem d_In_bitCount_15 : decode prog_8_method_49_code 15 = .ok (.iload_n 0, 1) := by decide +kernel
theorem d_In_bitCount_16 : decode prog_8_method_49_code 16 = .ok (.iconst 2, 1) := by decide +kernel
theorem d_In_bitCount_17 : decode prog_8_method_49_code 17 = .ok (.iushr, 1) := by decide +kernel
theorem d_In_bitCount_18 : decode prog_8_method_49_code 18 = .ok (.ldc_w 266, 3) := by decide +kernel
theorem d_In_bitCount_21 : decode prog_8_method_49_code 21 = .ok (.iand, 1) := by decide +kernel
theorem d_In_bitCount_22 : decode prog_8_method_49_code 22 = .ok (.iadd, 1) := by decide +kernel
theorem d_In_bitCount_23 : decode prog_8_method_49_code 23 = .ok (.istore_n 0, 1) := by decide +kernel
theorem d_In_bitCount_24 : decode prog_8_method_49_code 24 = .ok (.iload_n 0, 1) := by decide +kernel
theorem d_In_bitCount_25 : decode prog_8_method_49_code 25 = .ok (.iload_n 0, 1) := by decide +kernel
theorem d_In_bitCount_26 : decode prog_8_method_49_code 26 = .ok (.iconst 4, 1) := by decide +kernel
theorem d_In_bitCount_27 : decode prog_8_method_49_code 27 = .ok (.iushr, 1) := by decide +kernel
theorem d_In_bitCount_28 : decode prog_8_method_49_code 28 = .ok (.iadd, 1) := by decide +kernel
theorem d_In_bitCount_29 : decode prog_8_method_49_code 29 = .ok (.ldc_w 267, 3) := by decide +kernel
theorem d_In_bitCount_32 : decode prog_8_method_49_code 32 = .ok (.iand, 1) := by decide +kernel
theorem d_In_bitCount_33 : decode prog_8_method_49_code 33 = .ok (.istore_n 0, 1) := by decide +kernel
theorem d_In_bitCount_34 : decode prog_8_method_49_code 34 = .ok (.iload_n 0, 1) := by decide +kernel
theorem d_In_bitCount_35 : decode prog_8_method_49_code 35 = .ok (.iload_n 0, 1) := by decide +kernel
theorem d_In_bitCount_36 : decode prog_8_method_49_code 36 = .ok (.bipush 8, 2) := by decide +kernel
theorem d_In_bitCount_38 : decode prog_8_method_49_code 38 = .ok (.iushr, 1) := by decide +kernel
theorem d_In_bitCount_39 : decode prog_8_method_49_code 39 = .ok (.iadd, 1) := by decide +kernel
theorem d_In_bitCount_40 : decode prog_8_method_49_code 40 = .ok (.istore_n 0, 1) := by decide +kernel
theorem d_In_bitCount_41 : decode prog_8_method_49_code 41 = .ok (.iload_n 0, 1) := by decide +kernel
theorem d_In_bitCount_42 : decode prog_8_method_49_code 42 = .ok (.iload_n 0, 1) := by decide +kernel
theorem d_In_bitCount_43 : decode prog_8_method_49_code 43 = .ok (.bipush 16, 2) := by decide +kernel
theorem d_In_bitCount_45 : decode prog_8_method_49_code 45 = .ok (.iushr, 1) := by decide +kernel
theorem d_In_bitCount_46 : decode prog_8_method_49_code 46 = .ok (.iadd, 1) := by decide +kernel
theorem d_In_bitCount_47 : decode prog_8_method_49_code 47 = .ok (.istore_n 0, 1) := by decide +kernel
theorem d_In_bitCount_48 : decode prog_8_method_49_code 48 = .ok (.iload_n 0, 1) := by decide +kernel
theorem d_In_bitCount_49 : decode prog_8_method_49_code 49 = .ok (.bipush 63, 2) := by decide +kernel
theorem d_In_bitCount_51 : decode prog_8_method_49_code 51 = .ok (.iand, 1) := by decide +kernel
theorem d_In_bitCount_52 : decode prog_8_method_49_code 52 = .ok (.ireturn, 1) := by decide +kernel
theorem d_FM_isOdd_0 : decode prog_1_method_17_code 0 = .ok (.iload_n 0, 1) := by decide +kernel
theorem d_FM_isOdd_1 : decode prog_1_method_17_code 1 = .ok (.invokestatic 138, 3) := by decide +kernel
theorem d_FM_isOdd_4 : decode prog_1_method_17_code 4 = .ok (.iconst 1, 1) := by decide +kernel
theorem d_FM_isOdd_5 : decode prog_1_method_17_code 5 = .ok (.iand, 1) := by decide +kernel
theorem d_FM_isOdd_6 : decode prog_1_method_17_code 6 = .ok (.ifCond .eq 7, 3) := by decide +kernel
theorem d_FM_isOdd_9 : decode prog_1_method_17_code 9 = .ok (.iconst 1, 1) := by decide +kernel
theorem d_FM_isOdd_10 : decode prog_1_method_17_code 10 = .ok (.goto 4, 3) := by decide +kernel
theorem d_FM_isOdd_13 : decode prog_1_method_17_code 13 = .ok (.iconst 0, 1) := by decide +kernel
theorem d_FM_isOdd_14 : decode prog_1_method_17_code 14 = .ok (.ireturn, 1) := by decide +kernel
theorem d_FM_has_0 : decode prog_1_method_16_code 0 = .ok (.iload_n 0, 1) := by decide +kernel
theorem d_FM_has_1 : decode prog_1_method_16_code 1 = .ok (.iload_n 1, 1) := by decide +kernel
theorem d_FM_has_2 : decode prog_1_method_16_code 2 = .ok (.ishr, 1) := by decide +kernel
theorem d_FM_has_3 : decode prog_1_method_16_code 3 = .ok (.iconst 1, 1) := by decide +kernel
theorem d_FM_has_4 : decode prog_1_method_16_code 4 = .ok (.iand, 1) := by decide +kernel
theorem d_FM_has_5 : decode prog_1_method_16_code 5 = .ok (.ifCond .eq 7, 3) := by decide +kernel
theorem d_FM_has_8 : decode prog_1_method_16_code 8 = .ok (.iconst 1, 1) := by decide +kernel
theorem d_FM_has_9 : decode prog_1_method_16_code 9 = .ok (.goto 4, 3) := by decide +kernel
theorem d_FM_has_12 : decode prog_1_method_16_code 12 = .ok (.iconst 0, 1) := by decide +kernel
theorem d_FM_has_13 : decode prog_1_method_16_code 13 = .ok (.ireturn, 1) := by decide +kernel
theorem d_FM_oddBelow_0 : decode prog_1_method_18_code 0 = .ok (.iload_n 0, 1) := by decide +kernel
theorem d_FM_oddBelow_1 : decode prog_1_method_18_code 1 = .ok (.iconst 1, 1) := by decide +kernel
theorem d_FM_oddBelow_2 : decode prog_1_method_18_code 2 = .ok (.ishr, 1) := by decide +kernel
theorem d_FM_oddBelow_3 : decode prog_1_method_18_code 3 = .ok (.istore_n 1, 1) := by decide +kernel
theorem d_FM_oddBelow_4 : decode prog_1_method_18_code 4 = .ok (.iload_n 1, 1) := by decide +kernel
theorem d_FM_oddBelow_5 : decode prog_1_method_18_code 5 = .ok (.iload_n 1, 1) := by decide +kernel
theorem d_FM_oddBelow_6 : decode prog_1_method_18_code 6 = .ok (.iconst 1, 1) := by decide +kernel
theorem d_FM_oddBelow_7 : decode prog_1_method_18_code 7 = .ok (.ishr, 1) := by decide +kernel
theorem d_FM_oddBelow_8 : decode prog_1_method_18_code 8 = .ok (.ixor, 1) := by decide +kernel
theorem d_FM_oddBelow_9 : decode prog_1_method_18_code 9 = .ok (.istore_n 1, 1) := by decide +kernel
theorem d_FM_oddBelow_10 : decode prog_1_method_18_code 10 = .ok (.iload_n 1, 1) := by decide +kernel
theorem d_FM_oddBelow_11 : decode prog_1_method_18_code 11 = .ok (.iload_n 1, 1) := by decide +kernel
theorem d_FM_oddBelow_12 : decode prog_1_method_18_code 12 = .ok (.iconst 2, 1) := by decide +kernel
theorem d_FM_oddBelow_13 : decode prog_1_method_18_code 13 = .ok (.ishr, 1) := by decide +kernel
theorem d_FM_oddBelow_14 : decode prog_1_method_18_code 14 = .ok (.ixor, 1) := by decide +kernel
theorem d_FM_oddBelow_15 : decode prog_1_method_18_code 15 = .ok (.istore_n 1, 1) := by decide +kernel
theorem d_FM_oddBelow_16 : decode prog_1_method_18_code 16 = .ok (.iload_n 1, 1) := by decide +kernel
theorem d_FM_oddBelow_17 : decode prog_1_method_18_code 17 = .ok (.iload_n 1, 1) := by decide +kernel
theorem d_FM_oddBelow_18 : decode prog_1_method_18_code 18 = .ok (.iconst 4, 1) := by decide +kernel
theorem d_FM_oddBelow_19 : decode prog_1_method_18_code 19 = .ok (.ishr, 1) := by decide +kernel
theorem d_FM_oddBelow_20 : decode prog_1_method_18_code 20 = .ok (.ixor, 1) := by decide +kernel
theorem d_FM_oddBelow_21 : decode prog_1_method_18_code 21 = .ok (.istore_n 1, 1) := by decide +kernel
theorem d_FM_oddBelow_22 : decode prog_1_method_18_code 22 = .ok (.iload_n 1, 1) := by decide +kernel
theorem d_FM_oddBelow_23 : decode prog_1_method_18_code 23 = .ok (.ireturn, 1) := by decide +kernel
theorem d_FM_turnsAlways_0 : decode prog_1_method_19_code 0 = .ok (.iload_n 1, 1) := by decide +kernel
theorem d_FM_turnsAlways_1 : decode prog_1_method_19_code 1 = .ok (.iload_n 0, 1) := by decide +kernel
theorem d_FM_turnsAlways_2 : decode prog_1_method_19_code 2 = .ok (.invokestatic 143, 3) := by decide +kernel
theorem d_FM_turnsAlways_5 : decode prog_1_method_19_code 5 = .ok (.iand, 1) := by decide +kernel
theorem d_FM_turnsAlways_6 : decode prog_1_method_19_code 6 = .ok (.invokestatic 146, 3) := by decide +kernel
theorem d_FM_turnsAlways_9 : decode prog_1_method_19_code 9 = .ok (.ireturn, 1) := by decide +kernel
theorem d_FM_isBeyond_0 : decode prog_1_method_15_code 0 = .ok (.iload_n 0, 1) := by decide +kernel
theorem d_FM_isBeyond_1 : decode prog_1_method_15_code 1 = .ok (.ldc 136, 2) := by decide +kernel
theorem d_FM_isBeyond_3 : decode prog_1_method_15_code 3 = .ok (.if_icmp .lt 9, 3) := by decide +kernel
theorem d_FM_isBeyond_6 : decode prog_1_method_15_code 6 = .ok (.iload_n 0, 1) := by decide +kernel
theorem d_FM_isBeyond_7 : decode prog_1_method_15_code 7 = .ok (.ldc 137, 2) := by decide +kernel
theorem d_FM_isBeyond_9 : decode prog_1_method_15_code 9 = .ok (.if_icmp .le 7, 3) := by decide +kernel
theorem d_FM_isBeyond_12 : decode prog_1_method_15_code 12 = .ok (.iconst 1, 1) := by decide +kernel
theorem d_FM_isBeyond_13 : decode prog_1_method_15_code 13 = .ok (.goto 4, 3) := by decide +kernel
theorem d_FM_isBeyond_16 : decode prog_1_method_15_code 16 = .ok (.iconst 0, 1) := by decide +kernel
theorem d_FM_isBeyond_17 : decode prog_1_method_15_code 17 = .ok (.ireturn, 1) := by decide +kernel
/-! java/lang/Integer.bitCount(I)I -/
def f_In_bitCount (F : Nat) (p0 : Int32) : Option (Int32) :=
  nm ((p0 - (((p0.toUInt32 >>> ((1 : Int32).toUInt32 &&& Int32.toUInt32 31)).toInt32) &&& 1431655765)) : Int32) fun x0_1 =>
  nm (((x0_1 &&& 858993459) + (((x0_1.toUInt32 >>> ((2 : Int32).toUInt32 &&& Int32.toUInt32 31)).toInt32) &&& 858993459)) : Int32) fun x0_2 =>
  nm (((x0_2 + ((x0_2.toUInt32 >>> ((4 : Int32).toUInt32 &&& Int32.toUInt32 31)).toInt32)) &&& 252645135) : Int32) fun x0_3 =>
  nm ((x0_3 + ((x0_3.toUInt32 >>> ((8 : Int32).toUInt32 &&& Int32.toUInt32 31)).toInt32)) : Int32) fun x0_4 =>
  nm ((x0_4 + ((x0_4.toUInt32 >>> ((16 : Int32).toUInt32 &&& Int32.toUInt32 31)).toInt32)) : Int32) fun x0_5 =>
  some ((x0_5 &&& 63))
abbrev rm_In_bitCount : Room := { frames := 0, cells := 0, slots := 0, locals := 0 }
set_option maxHeartbeats 4000000 in
set_option maxRecDepth 100000 in
theorem c_In_bitCount (l : Launch) (dC : Nat → ClassId) (dI : Nat → Nat → Nat) (cI cJ : ClassId) (p0 : Int32) (F : Nat) (u : Int32) (hf : f_In_bitCount F p0 = some u) : Met l y_In_bitCount (Cond.code y_In_bitCount prog_8_method_49_code 1 (some .int) :: T0) rm_In_bitCount (va_Pc [.int p0] (Wr (dC, dI) [] [(cI, .int), (cJ, .long)])) (vp_Si (fun r => r = u)) 0 0 (fun _ => False) := by
  refine Met.ofW (cc := prog_8_method_49_code) (maxL := 1) (ret := (some .int)) (by decide) rfl ?_
  intro p e s m args below meth c s₁ B hml hv
  obtain ⟨rfl, hP, hK, hNW⟩ := hv
  have hx := B.exec
  have hb := B.bytes
  have hr := B.returns
  have hts := atoms_spec (ws := Cond.code y_In_bitCount prog_8_method_49_code 1 (some .int) :: T0) B.pre
  have ht0 : ∀ w ∈ T0, w.before ([.int p0] : List Value).toArray s = true := fun w h => hts w (List.mem_cons_of_mem _ h)
  have hown : s.vm.findClass "java/lang/Integer" = some m.cls := findClass_of_methodNamed B.named
  have hlocks := B.notSynchronized
  have hl := lv_entry ([.int p0]) (n := 1) (Nat.le_of_ble_eq_true rfl)
  rw [lg_entry_eq]
  generalize (lg_sl ([.int p0]) ++ List.replicate (1 - (lg_sl ([.int p0])).length) Slot.unset).toArray = ls at hl ⊢
  have hl : lv_has ls 1 [(0, .int p0)] := hl
  refine W.nameQ (fun Q hQ => ?_)
  rw [f_In_bitCount] at hf
  refine lv_iload_n hx hb d_In_bitCount_0 rfl (lv_at hl 0 rfl) ?_
  refine lv_iload_n hx hb d_In_bitCount_1 rfl (lv_at hl 0 rfl) ?_
  refine lv_iconst (v := 1) hx hb d_In_bitCount_2 (by decide) ?_
  refine lv_iushr (v := (p0.toUInt32 >>> ((1 : Int32).toUInt32 &&& Int32.toUInt32 31)).toInt32) hx hb d_In_bitCount_3 rfl ?_
  refine lv_ldcw hx hb hown (ht0 _ m_205) d_In_bitCount_4 ?_
  refine lv_iand hx hb d_In_bitCount_7 ?_
  refine lv_isub hx hb d_In_bitCount_8 ?_
  refine lv_topi (fun x0_1 e_x0_1 => ?_)
  replace hf := nm_eq e_x0_1 hf
  refine lv_istore_n (lv' := [(0, .int x0_1)]) hx hb d_In_bitCount_9 rfl hl (by decide) rfl (fun ls hl => ?_)
  refine lv_iload_n hx hb d_In_bitCount_10 rfl (lv_at hl 0 rfl) ?_
  refine lv_ldcw hx hb hown (ht0 _ m_206) d_In_bitCount_11 ?_
  refine lv_iand hx hb d_In_bitCount_14 ?_
  refine lv_iload_n hx hb d_In_bitCount_15 rfl (lv_at hl 0 rfl) ?_
  refine lv_iconst (v := 2) hx hb d_In_bitCount_16 (by decide) ?_
  refine lv_iushr (v := (x0_1.toUInt32 >>> ((2 : Int32).toUInt32 &&& Int32.toUInt32 31)).toInt32) hx hb d_In_bitCount_17 rfl ?_
  refine lv_ldcw hx hb hown (ht0 _ m_206) d_In_bitCount_18 ?_
  refine lv_iand hx hb d_In_bitCount_21 ?_
  refine lv_iadd hx hb d_In_bitCount_22 ?_
  refine lv_topi (fun x0_2 e_x0_2 => ?_)
  replace hf := nm_eq e_x0_2 hf
  refine lv_istore_n (lv' := [(0, .int x0_2)]) hx hb d_In_bitCount_23 rfl hl (by decide) rfl (fun ls hl => ?_)
  refine lv_iload_n hx hb d_In_bitCount_24 rfl (lv_at hl 0 rfl) ?_
  refine lv_iload_n hx hb d_In_bitCount_25 rfl (lv_at hl 0 rfl) ?_
  refine lv_iconst (v := 4) hx hb d_In_bitCount_26 (by decide) ?_
  refine lv_iushr (v := (x0_2.toUInt32 >>> ((4 : Int32).toUInt32 &&& Int32.toUInt32 31)).toInt32) hx hb d_In_bitCount_27 rfl ?_
  refine lv_iadd hx hb d_In_bitCount_28 ?_
  refine lv_ldcw hx hb hown (ht0 _ m_207) d_In_bitCount_29 ?_
  refine lv_iand hx hb d_In_bitCount_32 ?_
  refine lv_topi (fun x0_3 e_x0_3 => ?_)
  replace hf := nm_eq e_x0_3 hf
  refine lv_istore_n (lv' := [(0, .int x0_3)]) hx hb d_In_bitCount_33 rfl hl (by decide) rfl (fun ls hl => ?_)
  refine lv_iload_n hx hb d_In_bitCount_34 rfl (lv_at hl 0 rfl) ?_
  refine lv_iload_n hx hb d_In_bitCount_35 rfl (lv_at hl 0 rfl) ?_
  refine lv_bipush (v := 8) hx hb d_In_bitCount_36 (by decide) ?_
  refine lv_iushr (v := (x0_3.toUInt32 >>> ((8 : Int32).toUInt32 &&& Int32.toUInt32 31)).toInt32) hx hb d_In_bitCount_38 rfl ?_
  refine lv_iadd hx hb d_In_bitCount_39 ?_
  refine lv_topi (fun x0_4 e_x0_4 => ?_)
  replace hf := nm_eq e_x0_4 hf
  refine lv_istore_n (lv' := [(0, .int x0_4)]) hx hb d_In_bitCount_40 rfl hl (by decide) rfl (fun ls hl => ?_)
  refine lv_iload_n hx hb d_In_bitCount_41 rfl (lv_at hl 0 rfl) ?_
  refine lv_iload_n hx hb d_In_bitCount_42 rfl (lv_at hl 0 rfl) ?_
  refine lv_bipush (v := 16) hx hb d_In_bitCount_43 (by decide) ?_
  refine lv_iushr (v := (x0_4.toUInt32 >>> ((16 : Int32).toUInt32 &&& Int32.toUInt32 31)).toInt32) hx hb d_In_bitCount_45 rfl ?_
  refine lv_iadd hx hb d_In_bitCount_46 ?_
  refine lv_topi (fun x0_5 e_x0_5 => ?_)
  replace hf := nm_eq e_x0_5 hf
  refine lv_istore_n (lv' := [(0, .int x0_5)]) hx hb d_In_bitCount_47 rfl hl (by decide) rfl (fun ls hl => ?_)
  refine lv_iload_n hx hb d_In_bitCount_48 rfl (lv_at hl 0 rfl) ?_
  refine lv_bipush (v := 63) hx hb d_In_bitCount_49 (by decide) ?_
  refine lv_iand hx hb d_In_bitCount_51 ?_
  have hu := Option.some.inj hf
  subst hu
  exact rt_i hQ rfl hx hb hr hlocks d_In_bitCount_52

/-! FermionMaps.isOdd(I)Z -/
def f_FM_isOdd (F : Nat) (p0 : Int32) : Option (Int32) :=
  (f_In_bitCount F p0).bind fun u_1 =>
  if (u_1 &&& 1) = 0 then
    some (0)
  else
    some (1)
abbrev rm_FM_isOdd : Room := { frames := 1, cells := 0, slots := 0, locals := 20 }
set_option maxHeartbeats 4000000 in
set_option maxRecDepth 100000 in
theorem c_FM_isOdd (l : Launch) (dC : Nat → ClassId) (dI : Nat → Nat → Nat) (cI cJ : ClassId) (p0 : Int32) (F : Nat) (u : Int32) (hf : f_FM_isOdd F p0 = some u) : Met l y_FM_isOdd (Cond.code y_FM_isOdd prog_1_method_17_code 1 (some .boolean) :: T0) rm_FM_isOdd (va_Pc [.int p0] (Wr (dC, dI) [] [(cI, .int), (cJ, .long)])) (vp_Si (fun r => r = u)) 0 0 (fun _ => False) := by
  refine Met.ofW (cc := prog_1_method_17_code) (maxL := 1) (ret := (some .boolean)) (by decide) rfl ?_
  intro p e s m args below meth c s₁ B hml hv
  obtain ⟨rfl, hP, hK, hNW⟩ := hv
  have hx := B.exec
  have hb := B.bytes
  have hr := B.returns
  have hts := atoms_spec (ws := Cond.code y_FM_isOdd prog_1_method_17_code 1 (some .boolean) :: T0) B.pre
  have ht0 : ∀ w ∈ T0, w.before ([.int p0] : List Value).toArray s = true := fun w h => hts w (List.mem_cons_of_mem _ h)
  have hown : s.vm.findClass "FermionMaps" = some m.cls := findClass_of_methodNamed B.named
  have hlocks := B.notSynchronized
  have hl := lv_entry ([.int p0]) (n := 1) (Nat.le_of_ble_eq_true rfl)
  rw [lg_entry_eq]
  generalize (lg_sl ([.int p0]) ++ List.replicate (1 - (lg_sl ([.int p0])).length) Slot.unset).toArray = ls at hl ⊢
  have hl : lv_has ls 1 [(0, .int p0)] := hl
  refine W.nameQ (fun Q hQ => ?_)
  rw [f_FM_isOdd] at hf
  refine lv_iload_n hx hb d_FM_isOdd_0 rfl (lv_at hl 0 rfl) ?_
  obtain ⟨u_1, h_u_1, hf⟩ := bd hf
  refine rd_i (rdS_run (As := [.int p0]) (rest := []) ⟨hx, hb, hml, hown, ht0⟩ (c_In_bitCount l dC dI cI cJ p0 F u_1 h_u_1) (va_cwS 1 ht0 (gS m_202 m_203 m_7 m_204) rfl rfl rfl (by decide +kernel) ⟨Nat.le_of_ble_eq_true rfl, Nat.le_of_ble_eq_true rfl⟩) hK hNW hP [] rfl  rfl hl.1 rfl (Nat.le_of_ble_eq_true rfl) d_FM_isOdd_1 ⟨Nat.zero_le _, Nat.zero_le _⟩) ?_
  refine lv_iconst (v := 1) hx hb d_FM_isOdd_4 (by decide) ?_
  refine lv_iand hx hb d_FM_isOdd_5 ?_
  refine lv_if_eq (tgt := 13) hx hb d_FM_isOdd_6 (by decide) (fun c_2 => ?_) (fun c_2 => ?_)
  · replace hf := if_t c_2 hf
    refine lv_iconst (v := 0) hx hb d_FM_isOdd_13 (by decide) ?_
    have hu := Option.some.inj hf
    subst hu
    exact rt_z hQ rfl rfl hx hb hr hlocks d_FM_isOdd_14
  · replace hf := if_f c_2 hf
    refine lv_iconst (v := 1) hx hb d_FM_isOdd_9 (by decide) ?_
    refine lv_goto (tgt := 14) hx hb d_FM_isOdd_10 (by decide) ?_
    have hu := Option.some.inj hf
    subst hu
    exact rt_z hQ rfl rfl hx hb hr hlocks d_FM_isOdd_14

/-! FermionMaps.has(II)Z -/
def f_FM_has (F : Nat) (p0 : Int32) (p1 : Int32) : Option (Int32) :=
  if ((p0 >>> (p1 &&& 31)) &&& 1) = 0 then
    some (0)
  else
    some (1)
abbrev rm_FM_has : Room := { frames := 0, cells := 0, slots := 0, locals := 0 }
set_option maxHeartbeats 4000000 in
set_option maxRecDepth 100000 in
theorem c_FM_has (l : Launch) (dC : Nat → ClassId) (dI : Nat → Nat → Nat) (cI cJ : ClassId) (p0 : Int32) (p1 : Int32) (F : Nat) (u : Int32) (hf : f_FM_has F p0 p1 = some u) : Met l y_FM_has (Cond.code y_FM_has prog_1_method_16_code 2 (some .boolean) :: T0) rm_FM_has (va_Pc [.int p0, .int p1] (Wr (dC, dI) [] [(cI, .int), (cJ, .long)])) (vp_Si (fun r => r = u)) 0 0 (fun _ => False) := by
  refine Met.ofW (cc := prog_1_method_16_code) (maxL := 2) (ret := (some .boolean)) (by decide) rfl ?_
  intro p e s m args below meth c s₁ B hml hv
  obtain ⟨rfl, hP, hK, hNW⟩ := hv
  have hx := B.exec
  have hb := B.bytes
  have hr := B.returns
  have hts := atoms_spec (ws := Cond.code y_FM_has prog_1_method_16_code 2 (some .boolean) :: T0) B.pre
  have ht0 : ∀ w ∈ T0, w.before ([.int p0, .int p1] : List Value).toArray s = true := fun w h => hts w (List.mem_cons_of_mem _ h)
  have hown : s.vm.findClass "FermionMaps" = some m.cls := findClass_of_methodNamed B.named
  have hlocks := B.notSynchronized
  have hl := lv_entry ([.int p0, .int p1]) (n := 2) (Nat.le_of_ble_eq_true rfl)
  rw [lg_entry_eq]
  generalize (lg_sl ([.int p0, .int p1]) ++ List.replicate (2 - (lg_sl ([.int p0, .int p1])).length) Slot.unset).toArray = ls at hl ⊢
  have hl : lv_has ls 2 [(0, .int p0), (1, .int p1)] := hl
  refine W.nameQ (fun Q hQ => ?_)
  rw [f_FM_has] at hf
  refine lv_iload_n hx hb d_FM_has_0 rfl (lv_at hl 0 rfl) ?_
  refine lv_iload_n hx hb d_FM_has_1 rfl (lv_at hl 1 rfl) ?_
  refine lv_ishr hx hb d_FM_has_2 ?_
  refine lv_iconst (v := 1) hx hb d_FM_has_3 (by decide) ?_
  refine lv_iand hx hb d_FM_has_4 ?_
  refine lv_if_eq (tgt := 12) hx hb d_FM_has_5 (by decide) (fun c_1 => ?_) (fun c_1 => ?_)
  · replace hf := if_t c_1 hf
    refine lv_iconst (v := 0) hx hb d_FM_has_12 (by decide) ?_
    have hu := Option.some.inj hf
    subst hu
    exact rt_z hQ rfl rfl hx hb hr hlocks d_FM_has_13
  · replace hf := if_f c_1 hf
    refine lv_iconst (v := 1) hx hb d_FM_has_8 (by decide) ?_
    refine lv_goto (tgt := 13) hx hb d_FM_has_9 (by decide) ?_
    have hu := Option.some.inj hf
    subst hu
    exact rt_z hQ rfl rfl hx hb hr hlocks d_FM_has_13

/-! FermionMaps.oddBelow(I)I -/
def f_FM_oddBelow (F : Nat) (p0 : Int32) : Option (Int32) :=
  nm ((p0 >>> (1 &&& 31)) : Int32) fun x1_1 =>
  nm ((x1_1 ^^^ (x1_1 >>> (1 &&& 31))) : Int32) fun x1_2 =>
  nm ((x1_2 ^^^ (x1_2 >>> (2 &&& 31))) : Int32) fun x1_3 =>
  nm ((x1_3 ^^^ (x1_3 >>> (4 &&& 31))) : Int32) fun x1_4 =>
  some (x1_4)
abbrev rm_FM_oddBelow : Room := { frames := 0, cells := 0, slots := 0, locals := 0 }
set_option maxHeartbeats 4000000 in
set_option maxRecDepth 100000 in
theorem c_FM_oddBelow (l : Launch) (dC : Nat → ClassId) (dI : Nat → Nat → Nat) (cI cJ : ClassId) (p0 : Int32) (F : Nat) (u : Int32) (hf : f_FM_oddBelow F p0 = some u) : Met l y_FM_oddBelow (Cond.code y_FM_oddBelow prog_1_method_18_code 2 (some .int) :: T0) rm_FM_oddBelow (va_Pc [.int p0] (Wr (dC, dI) [] [(cI, .int), (cJ, .long)])) (vp_Si (fun r => r = u)) 0 0 (fun _ => False) := by
  refine Met.ofW (cc := prog_1_method_18_code) (maxL := 2) (ret := (some .int)) (by decide) rfl ?_
  intro p e s m args below meth c s₁ B hml hv
  obtain ⟨rfl, hP, hK, hNW⟩ := hv
  have hx := B.exec
  have hb := B.bytes
  have hr := B.returns
  have hts := atoms_spec (ws := Cond.code y_FM_oddBelow prog_1_method_18_code 2 (some .int) :: T0) B.pre
  have ht0 : ∀ w ∈ T0, w.before ([.int p0] : List Value).toArray s = true := fun w h => hts w (List.mem_cons_of_mem _ h)
  have hown : s.vm.findClass "FermionMaps" = some m.cls := findClass_of_methodNamed B.named
  have hlocks := B.notSynchronized
  have hl := lv_entry ([.int p0]) (n := 2) (Nat.le_of_ble_eq_true rfl)
  rw [lg_entry_eq]
  generalize (lg_sl ([.int p0]) ++ List.replicate (2 - (lg_sl ([.int p0])).length) Slot.unset).toArray = ls at hl ⊢
  have hl : lv_has ls 2 [(0, .int p0)] := hl
  refine W.nameQ (fun Q hQ => ?_)
  rw [f_FM_oddBelow] at hf
  refine lv_iload_n hx hb d_FM_oddBelow_0 rfl (lv_at hl 0 rfl) ?_
  refine lv_iconst (v := 1) hx hb d_FM_oddBelow_1 (by decide) ?_
  refine lv_ishr hx hb d_FM_oddBelow_2 ?_
  refine lv_topi (fun x1_1 e_x1_1 => ?_)
  replace hf := nm_eq e_x1_1 hf
  refine lv_istore_n (lv' := [(1, .int x1_1), (0, .int p0)]) hx hb d_FM_oddBelow_3 rfl hl (by decide) rfl (fun ls hl => ?_)
  refine lv_iload_n hx hb d_FM_oddBelow_4 rfl (lv_at hl 0 rfl) ?_
  refine lv_iload_n hx hb d_FM_oddBelow_5 rfl (lv_at hl 0 rfl) ?_
  refine lv_iconst (v := 1) hx hb d_FM_oddBelow_6 (by decide) ?_
  refine lv_ishr hx hb d_FM_oddBelow_7 ?_
  refine lv_ixor hx hb d_FM_oddBelow_8 ?_
  refine lv_topi (fun x1_2 e_x1_2 => ?_)
  replace hf := nm_eq e_x1_2 hf
  refine lv_istore_n (lv' := [(1, .int x1_2), (0, .int p0)]) hx hb d_FM_oddBelow_9 rfl hl (by decide) rfl (fun ls hl => ?_)
  refine lv_iload_n hx hb d_FM_oddBelow_10 rfl (lv_at hl 0 rfl) ?_
  refine lv_iload_n hx hb d_FM_oddBelow_11 rfl (lv_at hl 0 rfl) ?_
  refine lv_iconst (v := 2) hx hb d_FM_oddBelow_12 (by decide) ?_
  refine lv_ishr hx hb d_FM_oddBelow_13 ?_
  refine lv_ixor hx hb d_FM_oddBelow_14 ?_
  refine lv_topi (fun x1_3 e_x1_3 => ?_)
  replace hf := nm_eq e_x1_3 hf
  refine lv_istore_n (lv' := [(1, .int x1_3), (0, .int p0)]) hx hb d_FM_oddBelow_15 rfl hl (by decide) rfl (fun ls hl => ?_)
  refine lv_iload_n hx hb d_FM_oddBelow_16 rfl (lv_at hl 0 rfl) ?_
  refine lv_iload_n hx hb d_FM_oddBelow_17 rfl (lv_at hl 0 rfl) ?_
  refine lv_iconst (v := 4) hx hb d_FM_oddBelow_18 (by decide) ?_
  refine lv_ishr hx hb d_FM_oddBelow_19 ?_
  refine lv_ixor hx hb d_FM_oddBelow_20 ?_
  refine lv_topi (fun x1_4 e_x1_4 => ?_)
  replace hf := nm_eq e_x1_4 hf
  refine lv_istore_n (lv' := [(1, .int x1_4), (0, .int p0)]) hx hb d_FM_oddBelow_21 rfl hl (by decide) rfl (fun ls hl => ?_)
  refine lv_iload_n hx hb d_FM_oddBelow_22 rfl (lv_at hl 0 rfl) ?_
  have hu := Option.some.inj hf
  subst hu
  exact rt_i hQ rfl hx hb hr hlocks d_FM_oddBelow_23

/-! FermionMaps.turnsAlways(II)Z -/
def f_FM_turnsAlways (F : Nat) (p0 : Int32) (p1 : Int32) : Option (Int32) :=
  (f_FM_oddBelow F p0).bind fun u_1 =>
  (f_FM_isOdd F (p1 &&& u_1)).bind fun u_2 =>
  ckB u_2 <|
  some (u_2)
abbrev rm_FM_turnsAlways : Room := { frames := 2, cells := 0, slots := 0, locals := 40 }
set_option maxHeartbeats 4000000 in
set_option maxRecDepth 100000 in
theorem c_FM_turnsAlways (l : Launch) (dC : Nat → ClassId) (dI : Nat → Nat → Nat) (cI cJ : ClassId) (p0 : Int32) (p1 : Int32) (F : Nat) (u : Int32) (hf : f_FM_turnsAlways F p0 p1 = some u) : Met l y_FM_turnsAlways (Cond.code y_FM_turnsAlways prog_1_method_19_code 2 (some .boolean) :: T0) rm_FM_turnsAlways (va_Pc [.int p0, .int p1] (Wr (dC, dI) [] [(cI, .int), (cJ, .long)])) (vp_Si (fun r => r = u)) 0 0 (fun _ => False) := by
  refine Met.ofW (cc := prog_1_method_19_code) (maxL := 2) (ret := (some .boolean)) (by decide) rfl ?_
  intro p e s m args below meth c s₁ B hml hv
  obtain ⟨rfl, hP, hK, hNW⟩ := hv
  have hx := B.exec
  have hb := B.bytes
  have hr := B.returns
  have hts := atoms_spec (ws := Cond.code y_FM_turnsAlways prog_1_method_19_code 2 (some .boolean) :: T0) B.pre
  have ht0 : ∀ w ∈ T0, w.before ([.int p0, .int p1] : List Value).toArray s = true := fun w h => hts w (List.mem_cons_of_mem _ h)
  have hown : s.vm.findClass "FermionMaps" = some m.cls := findClass_of_methodNamed B.named
  have hlocks := B.notSynchronized
  have hl := lv_entry ([.int p0, .int p1]) (n := 2) (Nat.le_of_ble_eq_true rfl)
  rw [lg_entry_eq]
  generalize (lg_sl ([.int p0, .int p1]) ++ List.replicate (2 - (lg_sl ([.int p0, .int p1])).length) Slot.unset).toArray = ls at hl ⊢
  have hl : lv_has ls 2 [(0, .int p0), (1, .int p1)] := hl
  refine W.nameQ (fun Q hQ => ?_)
  rw [f_FM_turnsAlways] at hf
  refine lv_iload_n hx hb d_FM_turnsAlways_0 rfl (lv_at hl 1 rfl) ?_
  refine lv_iload_n hx hb d_FM_turnsAlways_1 rfl (lv_at hl 0 rfl) ?_
  obtain ⟨u_1, h_u_1, hf⟩ := bd hf
  refine rd_i (rdS_run (As := [.int p0]) (rest := [.int p1]) ⟨hx, hb, hml, hown, ht0⟩ (c_FM_oddBelow l dC dI cI cJ p0 F u_1 h_u_1) (va_cwS 1 ht0 (gS m_296 m_287 m_1 m_288) rfl rfl rfl (by decide +kernel) ⟨Nat.le_of_ble_eq_true rfl, Nat.le_of_ble_eq_true rfl⟩) hK hNW hP [] rfl  rfl hl.1 rfl (Nat.le_of_ble_eq_true rfl) d_FM_turnsAlways_2 ⟨Nat.zero_le _, Nat.zero_le _⟩) ?_
  refine lv_iand hx hb d_FM_turnsAlways_5 ?_
  obtain ⟨u_2, h_u_2, hf⟩ := bd hf
  refine rd_i (rdS_run (As := [.int (p1 &&& u_1)]) (rest := []) ⟨hx, hb, hml, hown, ht0⟩ (c_FM_isOdd l dC dI cI cJ (p1 &&& u_1) F u_2 h_u_2) (va_cwS 1 ht0 (gS m_297 m_200 m_1 m_201) rfl rfl rfl (by decide +kernel) ⟨Nat.le_of_ble_eq_true rfl, Nat.le_of_ble_eq_true rfl⟩) hK hNW hP [] rfl  rfl hl.1 rfl (Nat.le_of_ble_eq_true rfl) d_FM_turnsAlways_6 ⟨Nat.zero_le _, Nat.zero_le _⟩) ?_
  obtain ⟨hz_3, hf⟩ := ckB_ok hf
  have hu := Option.some.inj hf
  subst hu
  exact rt_z hQ rfl hz_3 hx hb hr hlocks d_FM_turnsAlways_9

/-! FermionMaps.isBeyond(I)Z -/
def b_FM_isBeyond_12 (F : Nat) : Option (Int32) :=
  some (1)
def f_FM_isBeyond (F : Nat) (p0 : Int32) : Option (Int32) :=
  if p0 < (-1000000) then
    b_FM_isBeyond_12 F
  else
    if p0 ≤ 1000000 then
      some (0)
    else
      b_FM_isBeyond_12 F
abbrev rm_FM_isBeyond : Room := { frames := 0, cells := 0, slots := 0, locals := 0 }
set_option maxHeartbeats 4000000 in
set_option maxRecDepth 100000 in
theorem c_FM_isBeyond (l : Launch) (dC : Nat → ClassId) (dI : Nat → Nat → Nat) (cI cJ : ClassId) (p0 : Int32) (F : Nat) (u : Int32) (hf : f_FM_isBeyond F p0 = some u) : Met l y_FM_isBeyond (Cond.code y_FM_isBeyond prog_1_method_15_code 1 (some .boolean) :: T0) rm_FM_isBeyond (va_Pc [.int p0] (Wr (dC, dI) [] [(cI, .int), (cJ, .long)])) (vp_Si (fun r => r = u)) 0 0 (fun _ => False) := by
  refine Met.ofW (cc := prog_1_method_15_code) (maxL := 1) (ret := (some .boolean)) (by decide) rfl ?_
  intro p e s m args below meth c s₁ B hml hv
  obtain ⟨rfl, hP, hK, hNW⟩ := hv
  have hx := B.exec
  have hb := B.bytes
  have hr := B.returns
  have hts := atoms_spec (ws := Cond.code y_FM_isBeyond prog_1_method_15_code 1 (some .boolean) :: T0) B.pre
  have ht0 : ∀ w ∈ T0, w.before ([.int p0] : List Value).toArray s = true := fun w h => hts w (List.mem_cons_of_mem _ h)
  have hown : s.vm.findClass "FermionMaps" = some m.cls := findClass_of_methodNamed B.named
  have hlocks := B.notSynchronized
  have hl := lv_entry ([.int p0]) (n := 1) (Nat.le_of_ble_eq_true rfl)
  rw [lg_entry_eq]
  generalize (lg_sl ([.int p0]) ++ List.replicate (1 - (lg_sl ([.int p0])).length) Slot.unset).toArray = ls at hl ⊢
  have hl : lv_has ls 1 [(0, .int p0)] := hl
  refine W.nameQ (fun Q hQ => ?_)
  have B_12 : ∀ (ls : Array Slot), b_FM_isBeyond_12 F = some u → lv_has ls 1 [] → W p l e (headSpec (Cond.code y_FM_isBeyond prog_1_method_15_code 1 (some .boolean) :: T0) rm_FM_isBeyond).room s m ([.int p0] : List Value).toArray below meth c s.heap [] 0 0 Q (F0 m 12 ls []) := by
    intro ls hf hl
    rw [b_FM_isBeyond_12] at hf
    refine lv_iconst (v := 1) hx hb d_FM_isBeyond_12 (by decide) ?_
    refine lv_goto (tgt := 17) hx hb d_FM_isBeyond_13 (by decide) ?_
    have hu := Option.some.inj hf
    subst hu
    exact rt_z hQ rfl rfl hx hb hr hlocks d_FM_isBeyond_17
  rw [f_FM_isBeyond] at hf
  refine lv_iload_n hx hb d_FM_isBeyond_0 rfl (lv_at hl 0 rfl) ?_
  refine lv_ldc hx hb hown (ht0 _ m_156) d_FM_isBeyond_1 ?_
  refine lv_icmp_lt (tgt := 12) hx hb d_FM_isBeyond_3 (by decide) (fun c_1 => ?_) (fun c_1 => ?_)
  · replace hf := if_t c_1 hf
    exact B_12 ls hf (lv_sub hl [] rfl)
  · replace hf := if_f c_1 hf
    refine lv_iload_n hx hb d_FM_isBeyond_6 rfl (lv_at hl 0 rfl) ?_
    refine lv_ldc hx hb hown (ht0 _ m_157) d_FM_isBeyond_7 ?_
    refine lv_icmp_le (tgt := 16) hx hb d_FM_isBeyond_9 (by decide) (fun c_2 => ?_) (fun c_2 => ?_)
    · replace hf := if_t c_2 hf
      refine lv_iconst (v := 0) hx hb d_FM_isBeyond_16 (by decide) ?_
      have hu := Option.some.inj hf
      subst hu
      exact rt_z hQ rfl rfl hx hb hr hlocks d_FM_isBeyond_17
    · replace hf := if_f c_2 hf
      exact B_12 ls hf (lv_sub hl [] rfl)
end
section
theorem d_Su_insert_0 : decode prog_3_method_8_code 0 = .ok (.aload_n 0, 1) := by decide +kernel
theorem d_Su_insert_1 : decode prog_3_method_8_code 1 = .ok (.getfield 24, 3) := by decide +kernel
theorem d_Su_insert_4 : decode prog_3_method_8_code 4 = .ok (.istore 4, 2) := by decide +kernel
theorem d_Su_insert_6 : decode prog_3_method_8_code 6 = .ok (.iload 4, 2) := by decide +kernel
theorem d_Su_insert_8 : decode prog_3_method_8_code 8 = .ok (.iload_n 1, 1) := by decide +kernel
theorem d_Su_insert_9 : decode prog_3_method_8_code 9 = .ok (.if_icmp .le 41, 3) := by decide +kernel
theorem d_Su_insert_12 : decode prog_3_method_8_code 12 = .ok (.aload_n 0, 1) := by decide +kernel
theorem d_Su_insert_13 : decode prog_3_method_8_code 13 = .ok (.getfield 9, 3) := by decide +kernel
theorem d_Su_insert_16 : decode prog_3_method_8_code 16 = .ok (.iload 4, 2) := by decide +kernel
theorem d_Su_insert_18 : decode prog_3_method_8_code 18 = .ok (.aload_n 0, 1) := by decide +kernel
theorem d_Su_insert_19 : decode prog_3_method_8_code 19 = .ok (.getfield 9, 3) := by decide +kernel
theorem d_Su_insert_22 : decode prog_3_method_8_code 22 = .ok (.iload 4, 2) := by decide +kernel
theorem d_Su_insert_24 : decode prog_3_method_8_code 24 = .ok (.iconst 1, 1) := by decide +kernel
theorem d_Su_insert_25 : decode prog_3_method_8_code 25 = .ok (.isub, 1) := by decide +kernel
theorem d_Su_insert_26 : decode prog_3_method_8_code 26 = .ok (.iaload, 1) := by decide +kernel
theorem d_Su_insert_27 : decode prog_3_method_8_code 27 = .ok (.iastore, 1) := by decide +kernel
theorem d_Su_insert_28 : decode prog_3_method_8_code 28 = .ok (.aload_n 0, 1) := by decide +kernel
theorem d_Su_insert_29 : decode prog_3_method_8_code 29 = .ok (.getfield 15, 3) := by decide +kernel
theorem d_Su_insert_32 : decode prog_3_method_8_code 32 = .ok (.iload 4, 2) := by decide +kernel
theorem d_Su_insert_34 : decode prog_3_method_8_code 34 = .ok (.aload_n 0, 1) := by decide +kernel
theorem d_Su_insert_35 : decode prog_3_method_8_code 35 = .ok (.getfield 15, 3) := by decide +kernel
theorem d_Su_insert_38 : decode prog_3_method_8_code 38 = .ok (.iload 4, 2) := by decide +kernel
theorem d_Su_insert_40 : decode prog_3_method_8_code 40 = .ok (.iconst 1, 1) := by decide +kernel
theorem d_Su_insert_41 : decode prog_3_method_8_code 41 = .ok (.isub, 1) := by decide +kernel
theorem d_Su_insert_42 : decode prog_3_method_8_code 42 = .ok (.iaload, 1) := by decide +kernel
theorem d_Su_insert_43 : decode prog_3_method_8_code 43 = .ok (.iastore, 1) := by decide +kernel
theorem d_Su_insert_44 : decode prog_3_method_8_code 44 = .ok (.iinc 4 (-1), 3) := by decide +kernel
theorem d_Su_insert_47 : decode prog_3_method_8_code 47 = .ok (.goto (-41), 3) := by decide +kernel
theorem d_Su_insert_50 : decode prog_3_method_8_code 50 = .ok (.aload_n 0, 1) := by decide +kernel
theorem d_Su_insert_51 : decode prog_3_method_8_code 51 = .ok (.getfield 9, 3) := by decide +kernel
theorem d_Su_insert_54 : decode prog_3_method_8_code 54 = .ok (.iload_n 1, 1) := by decide +kernel
theorem d_Su_insert_55 : decode prog_3_method_8_code 55 = .ok (.iload_n 2, 1) := by decide +kernel
theorem d_Su_insert_56 : decode prog_3_method_8_code 56 = .ok (.iastore, 1) := by decide +kernel
theorem d_Su_insert_57 : decode prog_3_method_8_code 57 = .ok (.aload_n 0, 1) := by decide +kernel
theorem d_Su_insert_58 : decode prog_3_method_8_code 58 = .ok (.getfield 15, 3) := by decide +kernel
theorem d_Su_insert_61 : decode prog_3_method_8_code 61 = .ok (.iload_n 1, 1) := by decide +kernel
theorem d_Su_insert_62 : decode prog_3_method_8_code 62 = .ok (.iload_n 3, 1) := by decide +kernel
theorem d_Su_insert_63 : decode prog_3_method_8_code 63 = .ok (.iastore, 1) := by decide +kernel
theorem d_Su_insert_64 : decode prog_3_method_8_code 64 = .ok (.aload_n 0, 1) := by decide +kernel
theorem d_Su_insert_65 : decode prog_3_method_8_code 65 = .ok (.dup, 1) := by decide +kernel
theorem d_Su_insert_66 : decode prog_3_method_8_code 66 = .ok (.getfield 24, 3) := by decide +kernel
theorem d_Su_insert_69 : decode prog_3_method_8_code 69 = .ok (.iconst 1, 1) := by decide +kernel
theorem d_Su_insert_70 : decode prog_3_method_8_code 70 = .ok (.iadd, 1) := by decide +kernel
theorem d_Su_insert_71 : decode prog_3_method_8_code 71 = .ok (.putfield 24, 3) := by decide +kernel
theorem d_Su_insert_74 : decode prog_3_method_8_code 74 = .ok (.return_, 1) := by decide +kernel
/-! FermionMaps$Sum.insert(III)V -/
def b_Su_insert_6 (F : Nat) : Nat → Int32 → Int32 → Int32 → Int32 → Int32 → (Nat → Int32) → (Nat → Int32) → Option (Int32 × (Nat → Int32) × (Nat → Int32))
  | 0, _, _, _, _, _, _, _ => none
  | n + 1, x1, x2, x3, x4, count, keys, numbers =>
    if x4 ≤ x1 then
      ckI x1 60 <|
      ckI x1 60 <|
      nm ((count + 1) : Int32) fun count_4 =>
      some (count_4, (upd keys x1.toNatClampNeg x2), (upd numbers x1.toNatClampNeg x3))
    else
      nm ((x4 - 1) : Int32) fun t_5 =>
      ckI t_5 60 <|
      nm ((keys t_5.toNatClampNeg) : Int32) fun t_7 =>
      ckI x4 60 <|
      nm ((x4 - 1) : Int32) fun t_9 =>
      ckI t_9 60 <|
      nm ((numbers t_9.toNatClampNeg) : Int32) fun t_11 =>
      ckI x4 60 <|
      nm (x4 + (-1) : Int32) fun x4_13 =>
      b_Su_insert_6 F n x1 x2 x3 x4_13 count (upd keys x4.toNatClampNeg t_7) (upd numbers x4.toNatClampNeg t_11)
def f_Su_insert (F : Nat) (count : Int32) (keys : Nat → Int32) (numbers : Nat → Int32) (p1 : Int32) (p2 : Int32) (p3 : Int32) : Option (Int32 × (Nat → Int32) × (Nat → Int32)) :=
  b_Su_insert_6 F F p1 p2 p3 count count keys numbers
abbrev rm_Su_insert : Room := { frames := 0, cells := 0, slots := 0, locals := 0 }
set_option maxHeartbeats 4000000 in
set_option maxRecDepth 100000 in
theorem c_Su_insert (l : Launch) (dC : Nat → ClassId) (dI : Nat → Nat → Nat) (cI cJ : ClassId) (a_p0 a_keys a_numbers z_spareKeys z_spareNumbers : Nat) (sz : Nat) (count : Int32) (keys : Nat → Int32) (numbers : Nat → Int32) (p1 : Int32) (p2 : Int32) (p3 : Int32) (F : Nat) (u : Int32 × (Nat → Int32) × (Nat → Int32)) (hf : f_Su_insert F count keys numbers p1 p2 p3 = some u) : Met l y_Su_insert (Cond.code y_Su_insert prog_3_method_8_code 5 none :: T0) rm_Su_insert (va_Pc [.ref a_p0, .int p1, .int p2, .int p3] (Ww (dC, dI) [(a_p0, .inr (1, [.ref a_keys, .ref a_numbers, .ref z_spareKeys, .ref z_spareNumbers, .int count])), (a_keys, .inl (cI, 60, .inl keys)), (a_numbers, .inl (cI, 60, .inl numbers))] [(cI, .int), (cJ, .long)] sz)) (va_Qv (fun _ : Unit => True) (Bw (dC, dI) [(cI, .int), (cJ, .long)] (va_A [(a_p0, .inr (1, [.ref a_keys, .ref a_numbers, .ref z_spareKeys, .ref z_spareNumbers, .int count])), (a_keys, .inl (cI, 60, .inl keys)), (a_numbers, .inl (cI, 60, .inl numbers))] sz) (fun w1 => w1 = [(a_p0, .inr (1, [.ref a_keys, .ref a_numbers, .ref z_spareKeys, .ref z_spareNumbers, .int u.1])), (a_keys, .inl (cI, 60, .inl u.2.1)), (a_numbers, .inl (cI, 60, .inl u.2.2))])) (va_A [(a_p0, .inr (1, [.ref a_keys, .ref a_numbers, .ref z_spareKeys, .ref z_spareNumbers, .int count])), (a_keys, .inl (cI, 60, .inl keys)), (a_numbers, .inl (cI, 60, .inl numbers))] sz)) 0 0 (va_A [(a_p0, .inr (1, [.ref a_keys, .ref a_numbers, .ref z_spareKeys, .ref z_spareNumbers, .int count])), (a_keys, .inl (cI, 60, .inl keys)), (a_numbers, .inl (cI, 60, .inl numbers))] sz) := by
  refine Met.ofW (cc := prog_3_method_8_code) (maxL := 5) (ret := none) (by decide) rfl ?_
  intro p e s m args below meth c s₁ B hml hv
  obtain ⟨rfl, hsz, hP, hK, hD0, hNW⟩ := hv
  have hx := B.exec
  have hb := B.bytes
  have hr := B.returns
  have hts := atoms_spec (ws := Cond.code y_Su_insert prog_3_method_8_code 5 none :: T0) B.pre
  have ht0 : ∀ w ∈ T0, w.before ([.ref a_p0, .int p1, .int p2, .int p3] : List Value).toArray s = true := fun w h => hts w (List.mem_cons_of_mem _ h)
  have hown : s.vm.findClass "FermionMaps$Sum" = some m.cls := findClass_of_methodNamed B.named
  have hlocks := B.notSynchronized
  subst hsz
  have hD := hD0.self (sz := s.heap.size)
  generalize hAe : va_A [(a_p0, .inr (1, [.ref a_keys, .ref a_numbers, .ref z_spareKeys, .ref z_spareNumbers, .int count])), (a_keys, .inl (cI, 60, .inl keys)), (a_numbers, .inl (cI, 60, .inl numbers))] s.heap.size = A at hD ⊢
  have hA : ∀ q : Nat, s.heap.size ≤ q → A q := fun q h => by rw [← hAe]; exact Or.inr h
  have hS : va_S A s.heap s.heap [] := va_S.rf
  have hl := lv_entry ([.ref a_p0, .int p1, .int p2, .int p3]) (n := 5) (Nat.le_of_ble_eq_true rfl)
  rw [lg_entry_eq]
  generalize (lg_sl ([.ref a_p0, .int p1, .int p2, .int p3]) ++ List.replicate (5 - (lg_sl ([.ref a_p0, .int p1, .int p2, .int p3])).length) Slot.unset).toArray = ls at hl ⊢
  have hl : lv_has ls 5 [(0, .ref a_p0), (1, .int p1), (2, .int p2), (3, .int p3)] := hl
  refine W.nameQ (fun Q hQ => ?_)
  have B_6 : ∀ (n : Nat), ∀ (x1 : Int32) (x2 : Int32) (x3 : Int32) (x4 : Int32) (count : Int32) (keys : Nat → Int32) (numbers : Nat → Int32) (H : Heap) (locs : List Loc) (ls : Array Slot), b_Su_insert_6 F n x1 x2 x3 x4 count keys numbers = some u → va_P (dC, dI) cls [(a_p0, .inr (1, [.ref a_keys, .ref a_numbers, .ref z_spareKeys, .ref z_spareNumbers, .int count])), (a_keys, .inl (cI, 60, .inl keys)), (a_numbers, .inl (cI, 60, .inl numbers))] H → va_D A [(a_p0, .inr (1, [.ref a_keys, .ref a_numbers, .ref z_spareKeys, .ref z_spareNumbers, .int count])), (a_keys, .inl (cI, 60, .inl keys)), (a_numbers, .inl (cI, 60, .inl numbers))] → va_S A s.heap H locs → lv_has ls 5 [(0, .ref a_p0), (1, .int x1), (2, .int x2), (3, .int x3), (4, .int x4)] → W p l e (headSpec (Cond.code y_Su_insert prog_3_method_8_code 5 none :: T0) rm_Su_insert).room s m ([.ref a_p0, .int p1, .int p2, .int p3] : List Value).toArray below meth c H locs 0 0 Q (F0 m 6 ls []) := by
    intro n
    induction n with
    | zero =>
      intro x1 x2 x3 x4 count keys numbers H locs ls hf hP hD hS hl
      exact no_fuel hf
    | succ n ih =>
      intro x1 x2 x3 x4 count keys numbers H locs ls hf hP hD hS hl
      rw [b_Su_insert_6] at hf
      refine lv_iload hx hb d_Su_insert_6 (lv_at hl 4 rfl) ?_
      refine lv_iload_n hx hb d_Su_insert_8 rfl (lv_at hl 1 rfl) ?_
      refine lv_icmp_le (tgt := 50) hx hb d_Su_insert_9 (by decide) (fun c_1 => ?_) (fun c_1 => ?_)
      · replace hf := if_t c_1 hf
        refine lv_aload_n hx hb d_Su_insert_50 rfl (lv_at hl 0 rfl) ?_
        refine va_get (D := (dC, dI)) (ci := 1) (v := .ref a_keys) (C := "FermionMaps$Sum") (T := F_Su) (N := 5) hx hb ht0 i_Su hown hK hP 0 rfl rfl 0 (by decide) (ht0 _ m_26) (fun _ h9 => h9) rfl d_Su_insert_51 ?_
        refine lv_iload_n hx hb d_Su_insert_54 rfl (lv_at hl 1 rfl) ?_
        refine lv_iload_n hx hb d_Su_insert_55 rfl (lv_at hl 2 rfl) ?_
        obtain ⟨hi_2, hf⟩ := ckI_ok hf
        refine va_iast hx hb hK hP hD hS 1 0 rfl rfl hi_2 d_Su_insert_56 (fun H locs hP hD hS => ?_)
        have hP : va_P (dC, dI) cls [(a_p0, .inr (1, [.ref a_keys, .ref a_numbers, .ref z_spareKeys, .ref z_spareNumbers, .int count])), (a_keys, .inl (cI, 60, .inl (upd keys x1.toNatClampNeg x2))), (a_numbers, .inl (cI, 60, .inl numbers))] H := hP
        have hD : va_D A [(a_p0, .inr (1, [.ref a_keys, .ref a_numbers, .ref z_spareKeys, .ref z_spareNumbers, .int count])), (a_keys, .inl (cI, 60, .inl (upd keys x1.toNatClampNeg x2))), (a_numbers, .inl (cI, 60, .inl numbers))] := hD
        refine lv_aload_n hx hb d_Su_insert_57 rfl (lv_at hl 0 rfl) ?_
        refine va_get (D := (dC, dI)) (ci := 1) (v := .ref a_numbers) (C := "FermionMaps$Sum") (T := F_Su) (N := 5) hx hb ht0 i_Su hown hK hP 0 rfl rfl 1 (by decide) (ht0 _ m_27) (fun _ h9 => h9) rfl d_Su_insert_58 ?_
        refine lv_iload_n hx hb d_Su_insert_61 rfl (lv_at hl 1 rfl) ?_
        refine lv_iload_n hx hb d_Su_insert_62 rfl (lv_at hl 3 rfl) ?_
        obtain ⟨hi_3, hf⟩ := ckI_ok hf
        refine va_iast hx hb hK hP hD hS 2 0 rfl rfl hi_3 d_Su_insert_63 (fun H locs hP hD hS => ?_)
        have hP : va_P (dC, dI) cls [(a_p0, .inr (1, [.ref a_keys, .ref a_numbers, .ref z_spareKeys, .ref z_spareNumbers, .int count])), (a_keys, .inl (cI, 60, .inl (upd keys x1.toNatClampNeg x2))), (a_numbers, .inl (cI, 60, .inl (upd numbers x1.toNatClampNeg x3)))] H := hP
        have hD : va_D A [(a_p0, .inr (1, [.ref a_keys, .ref a_numbers, .ref z_spareKeys, .ref z_spareNumbers, .int count])), (a_keys, .inl (cI, 60, .inl (upd keys x1.toNatClampNeg x2))), (a_numbers, .inl (cI, 60, .inl (upd numbers x1.toNatClampNeg x3)))] := hD
        refine lv_aload_n hx hb d_Su_insert_64 rfl (lv_at hl 0 rfl) ?_
        refine lv_dup hx hb d_Su_insert_65 rfl ?_
        refine va_get (D := (dC, dI)) (ci := 1) (v := .int count) (C := "FermionMaps$Sum") (T := F_Su) (N := 5) hx hb ht0 i_Su hown hK hP 0 rfl rfl 4 (by decide) (ht0 _ m_32) (fun _ h9 => h9) rfl d_Su_insert_66 ?_
        refine lv_iconst (v := 1) hx hb d_Su_insert_69 (by decide) ?_
        refine lv_iadd hx hb d_Su_insert_70 ?_
        refine lv_topi (fun count_4 e_count_4 => ?_)
        replace hf := nm_eq e_count_4 hf
        refine va_put (D := (dC, dI)) (ci := 1) (v := .int count_4) (ty := .int) (C := "FermionMaps$Sum") (T := F_Su) (N := 5) hx hb ht0 i_Su t_Su t_Su_ok n_Su hown hK hP hD hS 0 rfl rfl 4 (by decide) (ht0 _ m_32) (fun _ h9 => h9) rfl (by decide +kernel) rfl rfl (Nat.le_of_ble_eq_true rfl) d_Su_insert_71 (fun H locs hP hD hS => ?_)
        have hP : va_P (dC, dI) cls [(a_p0, .inr (1, [.ref a_keys, .ref a_numbers, .ref z_spareKeys, .ref z_spareNumbers, .int count_4])), (a_keys, .inl (cI, 60, .inl (upd keys x1.toNatClampNeg x2))), (a_numbers, .inl (cI, 60, .inl (upd numbers x1.toNatClampNeg x3)))] H := hP
        have hD : va_D A [(a_p0, .inr (1, [.ref a_keys, .ref a_numbers, .ref z_spareKeys, .ref z_spareNumbers, .int count_4])), (a_keys, .inl (cI, 60, .inl (upd keys x1.toNatClampNeg x2))), (a_numbers, .inl (cI, 60, .inl (upd numbers x1.toNatClampNeg x3)))] := hD
        have hu := Option.some.inj hf
        subst hu
        exact rw_v hQ rfl hP hD hK hS hx hb hr hlocks d_Su_insert_74
      · replace hf := if_f c_1 hf
        refine lv_aload_n hx hb d_Su_insert_12 rfl (lv_at hl 0 rfl) ?_
        refine va_get (D := (dC, dI)) (ci := 1) (v := .ref a_keys) (C := "FermionMaps$Sum") (T := F_Su) (N := 5) hx hb ht0 i_Su hown hK hP 0 rfl rfl 0 (by decide) (ht0 _ m_26) (fun _ h9 => h9) rfl d_Su_insert_13 ?_
        refine lv_iload hx hb d_Su_insert_16 (lv_at hl 4 rfl) ?_
        refine lv_aload_n hx hb d_Su_insert_18 rfl (lv_at hl 0 rfl) ?_
        refine va_get (D := (dC, dI)) (ci := 1) (v := .ref a_keys) (C := "FermionMaps$Sum") (T := F_Su) (N := 5) hx hb ht0 i_Su hown hK hP 0 rfl rfl 0 (by decide) (ht0 _ m_26) (fun _ h9 => h9) rfl d_Su_insert_19 ?_
        refine lv_iload hx hb d_Su_insert_22 (lv_at hl 4 rfl) ?_
        refine lv_iconst (v := 1) hx hb d_Su_insert_24 (by decide) ?_
        refine lv_isub hx hb d_Su_insert_25 ?_
        refine lv_topi (fun t_5 e_t_5 => ?_)
        replace hf := nm_eq e_t_5 hf
        obtain ⟨hi_6, hf⟩ := ckI_ok hf
        refine va_iald hx hb hK hP 1 0 rfl rfl hi_6 d_Su_insert_26 ?_
        refine lv_topi (fun t_7 e_t_7 => ?_)
        replace hf := nm_eq e_t_7 hf
        obtain ⟨hi_8, hf⟩ := ckI_ok hf
        refine va_iast hx hb hK hP hD hS 1 0 rfl rfl hi_8 d_Su_insert_27 (fun H locs hP hD hS => ?_)
        have hP : va_P (dC, dI) cls [(a_p0, .inr (1, [.ref a_keys, .ref a_numbers, .ref z_spareKeys, .ref z_spareNumbers, .int count])), (a_keys, .inl (cI, 60, .inl (upd keys x4.toNatClampNeg t_7))), (a_numbers, .inl (cI, 60, .inl numbers))] H := hP
        have hD : va_D A [(a_p0, .inr (1, [.ref a_keys, .ref a_numbers, .ref z_spareKeys, .ref z_spareNumbers, .int count])), (a_keys, .inl (cI, 60, .inl (upd keys x4.toNatClampNeg t_7))), (a_numbers, .inl (cI, 60, .inl numbers))] := hD
        refine lv_aload_n hx hb d_Su_insert_28 rfl (lv_at hl 0 rfl) ?_
        refine va_get (D := (dC, dI)) (ci := 1) (v := .ref a_numbers) (C := "FermionMaps$Sum") (T := F_Su) (N := 5) hx hb ht0 i_Su hown hK hP 0 rfl rfl 1 (by decide) (ht0 _ m_27) (fun _ h9 => h9) rfl d_Su_insert_29 ?_
        refine lv_iload hx hb d_Su_insert_32 (lv_at hl 4 rfl) ?_
        refine lv_aload_n hx hb d_Su_insert_34 rfl (lv_at hl 0 rfl) ?_
        refine va_get (D := (dC, dI)) (ci := 1) (v := .ref a_numbers) (C := "FermionMaps$Sum") (T := F_Su) (N := 5) hx hb ht0 i_Su hown hK hP 0 rfl rfl 1 (by decide) (ht0 _ m_27) (fun _ h9 => h9) rfl d_Su_insert_35 ?_
        refine lv_iload hx hb d_Su_insert_38 (lv_at hl 4 rfl) ?_
        refine lv_iconst (v := 1) hx hb d_Su_insert_40 (by decide) ?_
        refine lv_isub hx hb d_Su_insert_41 ?_
        refine lv_topi (fun t_9 e_t_9 => ?_)
        replace hf := nm_eq e_t_9 hf
        obtain ⟨hi_10, hf⟩ := ckI_ok hf
        refine va_iald hx hb hK hP 2 0 rfl rfl hi_10 d_Su_insert_42 ?_
        refine lv_topi (fun t_11 e_t_11 => ?_)
        replace hf := nm_eq e_t_11 hf
        obtain ⟨hi_12, hf⟩ := ckI_ok hf
        refine va_iast hx hb hK hP hD hS 2 0 rfl rfl hi_12 d_Su_insert_43 (fun H locs hP hD hS => ?_)
        have hP : va_P (dC, dI) cls [(a_p0, .inr (1, [.ref a_keys, .ref a_numbers, .ref z_spareKeys, .ref z_spareNumbers, .int count])), (a_keys, .inl (cI, 60, .inl (upd keys x4.toNatClampNeg t_7))), (a_numbers, .inl (cI, 60, .inl (upd numbers x4.toNatClampNeg t_11)))] H := hP
        have hD : va_D A [(a_p0, .inr (1, [.ref a_keys, .ref a_numbers, .ref z_spareKeys, .ref z_spareNumbers, .int count])), (a_keys, .inl (cI, 60, .inl (upd keys x4.toNatClampNeg t_7))), (a_numbers, .inl (cI, 60, .inl (upd numbers x4.toNatClampNeg t_11)))] := hD
        obtain ⟨x4_13, e_x4_13⟩ : ∃ y : Int32, y = x4 + (-1) := ⟨_, rfl⟩
        replace hf := nm_eq e_x4_13 hf
        refine lv_iinc (v := x4_13) (lv' := [(4, .int x4_13), (0, .ref a_p0), (1, .int x1), (2, .int x2), (3, .int x3)]) hx hb d_Su_insert_44 hl (k := 4) rfl (by rw [e_x4_13]; rfl) (by decide) rfl (fun ls hl => ?_)
        refine lv_goto (tgt := 6) hx hb d_Su_insert_47 (by decide) ?_
        exact ih x1 x2 x3 x4_13 count (upd keys x4.toNatClampNeg t_7) (upd numbers x4.toNatClampNeg t_11) H locs ls hf hP hD hS (lv_sub hl [1, 2, 3, 4, 0] rfl)
  rw [f_Su_insert] at hf
  refine lv_aload_n hx hb d_Su_insert_0 rfl (lv_at hl 0 rfl) ?_
  refine va_get (D := (dC, dI)) (ci := 1) (v := .int count) (C := "FermionMaps$Sum") (T := F_Su) (N := 5) hx hb ht0 i_Su hown hK hP 0 rfl rfl 4 (by decide) (ht0 _ m_32) (fun _ h9 => h9) rfl d_Su_insert_1 ?_
  refine lv_istore (lv' := [(4, .int count), (0, .ref a_p0), (1, .int p1), (2, .int p2), (3, .int p3)]) hx hb d_Su_insert_4 hl (by decide) rfl (fun ls hl => ?_)
  exact B_6 F p1 p2 p3 count count keys numbers s.heap [] ls hf hP hD hS (lv_sub hl [1, 2, 3, 4, 0] rfl)
end
