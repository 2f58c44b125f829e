-- ===== PART A: goes FIRST, ahead of the names: the tables' words, and 'selects' of the private methods out of them =====
/-- a private method of a class that the tables say can be made, by its rows of tables_1 -/
def lw_okq (q : MethodName × Nat) : Prop := (q.1.cls ≠ "java/lang/invoke/MethodHandle" ∧ q.1.cls ≠ "java/lang/invoke/VarHandle") ∧ Cond.instantiable q.1.cls q.2 ∈ tables_1 ∧ Cond.privateMethod q.1 ∈ tables_1 ∧ Cond.instanceMethod q.1 ∈ tables_1
theorem lw_p0 : lw_okq (⟨"FermionMaps", "isSet", "(I)Z"⟩, 3) := ⟨⟨by decide +kernel, by decide +kernel⟩, List.mem_of_getElem? (i := 13) (by decide +kernel), List.mem_of_getElem? (i := 150) (by decide +kernel), List.mem_of_getElem? (i := 151) (by decide +kernel)⟩
theorem lw_p1 : lw_okq (⟨"java/lang/Throwable", "fillInStackTrace", "(I)Ljava/lang/Throwable;"⟩, 6) := ⟨⟨by decide +kernel, by decide +kernel⟩, List.mem_of_getElem? (i := 366) (by decide +kernel), List.mem_of_getElem? (i := 364) (by decide +kernel), List.mem_of_getElem? (i := 365) (by decide +kernel)⟩
theorem lw_p2 : lw_okq (⟨"FermionMapsModel", "start", "(I)V"⟩, 25) := ⟨⟨by decide +kernel, by decide +kernel⟩, List.mem_of_getElem? (i := 428) (by decide +kernel), List.mem_of_getElem? (i := 435) (by decide +kernel), List.mem_of_getElem? (i := 436) (by decide +kernel)⟩
theorem lw_p3 : lw_okq (⟨"FermionMapsModel", "writeAll", "()V"⟩, 25) := ⟨⟨by decide +kernel, by decide +kernel⟩, List.mem_of_getElem? (i := 428) (by decide +kernel), List.mem_of_getElem? (i := 439) (by decide +kernel), List.mem_of_getElem? (i := 440) (by decide +kernel)⟩
theorem lw_p4 : lw_okq (⟨"FermionMapsModel", "states", "()I"⟩, 25) := ⟨⟨by decide +kernel, by decide +kernel⟩, List.mem_of_getElem? (i := 428) (by decide +kernel), List.mem_of_getElem? (i := 443) (by decide +kernel), List.mem_of_getElem? (i := 444) (by decide +kernel)⟩
theorem lw_p5 : lw_okq (⟨"FermionMapsModel", "write", "(II)I"⟩, 25) := ⟨⟨by decide +kernel, by decide +kernel⟩, List.mem_of_getElem? (i := 428) (by decide +kernel), List.mem_of_getElem? (i := 447) (by decide +kernel), List.mem_of_getElem? (i := 448) (by decide +kernel)⟩
theorem lw_p6 : lw_okq (⟨"FermionMapsModel", "setOf", "(II)I"⟩, 25) := ⟨⟨by decide +kernel, by decide +kernel⟩, List.mem_of_getElem? (i := 428) (by decide +kernel), List.mem_of_getElem? (i := 451) (by decide +kernel), List.mem_of_getElem? (i := 452) (by decide +kernel)⟩
theorem lw_p7 : lw_okq (⟨"FermionMapsModel", "isState", "(I)Z"⟩, 25) := ⟨⟨by decide +kernel, by decide +kernel⟩, List.mem_of_getElem? (i := 428) (by decide +kernel), List.mem_of_getElem? (i := 546) (by decide +kernel), List.mem_of_getElem? (i := 547) (by decide +kernel)⟩
theorem lw_p8 : lw_okq (⟨"FermionMapsModel", "put", "(IIJ)Z"⟩, 25) := ⟨⟨by decide +kernel, by decide +kernel⟩, List.mem_of_getElem? (i := 428) (by decide +kernel), List.mem_of_getElem? (i := 552) (by decide +kernel), List.mem_of_getElem? (i := 553) (by decide +kernel)⟩
theorem lw_p9 : lw_okq (⟨"FermionMapsModel", "take", "()I"⟩, 25) := ⟨⟨by decide +kernel, by decide +kernel⟩, List.mem_of_getElem? (i := 428) (by decide +kernel), List.mem_of_getElem? (i := 556) (by decide +kernel), List.mem_of_getElem? (i := 557) (by decide +kernel)⟩
theorem lw_p10 : lw_okq (⟨"FermionMapsModel", "fillMatrix", "()V"⟩, 25) := ⟨⟨by decide +kernel, by decide +kernel⟩, List.mem_of_getElem? (i := 428) (by decide +kernel), List.mem_of_getElem? (i := 564) (by decide +kernel), List.mem_of_getElem? (i := 565) (by decide +kernel)⟩
theorem lw_p11 : lw_okq (⟨"FermionMapsModel", "make", "(III)Z"⟩, 25) := ⟨⟨by decide +kernel, by decide +kernel⟩, List.mem_of_getElem? (i := 428) (by decide +kernel), List.mem_of_getElem? (i := 568) (by decide +kernel), List.mem_of_getElem? (i := 569) (by decide +kernel)⟩
theorem lw_p12 : lw_okq (⟨"FermionMapsModel", "climb", "(IZ)Z"⟩, 25) := ⟨⟨by decide +kernel, by decide +kernel⟩, List.mem_of_getElem? (i := 428) (by decide +kernel), List.mem_of_getElem? (i := 572) (by decide +kernel), List.mem_of_getElem? (i := 573) (by decide +kernel)⟩
theorem lw_p13 : lw_okq (⟨"FermionMapsModel", "multiply", "(IZZ)V"⟩, 25) := ⟨⟨by decide +kernel, by decide +kernel⟩, List.mem_of_getElem? (i := 428) (by decide +kernel), List.mem_of_getElem? (i := 576) (by decide +kernel), List.mem_of_getElem? (i := 577) (by decide +kernel)⟩
theorem lw_p14 : lw_okq (⟨"FermionMapsModel", "readOff", "()Z"⟩, 25) := ⟨⟨by decide +kernel, by decide +kernel⟩, List.mem_of_getElem? (i := 428) (by decide +kernel), List.mem_of_getElem? (i := 580) (by decide +kernel), List.mem_of_getElem? (i := 581) (by decide +kernel)⟩
theorem lw_p15 : lw_okq (⟨"FermionMapsModel", "raise", "()I"⟩, 25) := ⟨⟨by decide +kernel, by decide +kernel⟩, List.mem_of_getElem? (i := 428) (by decide +kernel), List.mem_of_getElem? (i := 592) (by decide +kernel), List.mem_of_getElem? (i := 593) (by decide +kernel)⟩
def lw_privs_1 : List (MethodName × Nat) := [(⟨"FermionMaps", "isSet", "(I)Z"⟩, 3), (⟨"java/lang/Throwable", "fillInStackTrace", "(I)Ljava/lang/Throwable;"⟩, 6), (⟨"FermionMapsModel", "start", "(I)V"⟩, 25), (⟨"FermionMapsModel", "writeAll", "()V"⟩, 25), (⟨"FermionMapsModel", "states", "()I"⟩, 25), (⟨"FermionMapsModel", "write", "(II)I"⟩, 25), (⟨"FermionMapsModel", "setOf", "(II)I"⟩, 25), (⟨"FermionMapsModel", "isState", "(I)Z"⟩, 25), (⟨"FermionMapsModel", "put", "(IIJ)Z"⟩, 25), (⟨"FermionMapsModel", "take", "()I"⟩, 25), (⟨"FermionMapsModel", "fillMatrix", "()V"⟩, 25), (⟨"FermionMapsModel", "make", "(III)Z"⟩, 25), (⟨"FermionMapsModel", "climb", "(IZ)Z"⟩, 25), (⟨"FermionMapsModel", "multiply", "(IZZ)V"⟩, 25), (⟨"FermionMapsModel", "readOff", "()Z"⟩, 25), (⟨"FermionMapsModel", "raise", "()I"⟩, 25)]
theorem lw_r1 : ∀ q ∈ lw_privs_1, lw_okq q := List.forall_mem_cons.mpr ⟨lw_p0, List.forall_mem_cons.mpr ⟨lw_p1, List.forall_mem_cons.mpr ⟨lw_p2, List.forall_mem_cons.mpr ⟨lw_p3, List.forall_mem_cons.mpr ⟨lw_p4, List.forall_mem_cons.mpr ⟨lw_p5, List.forall_mem_cons.mpr ⟨lw_p6, List.forall_mem_cons.mpr ⟨lw_p7, List.forall_mem_cons.mpr ⟨lw_p8, List.forall_mem_cons.mpr ⟨lw_p9, List.forall_mem_cons.mpr ⟨lw_p10, List.forall_mem_cons.mpr ⟨lw_p11, List.forall_mem_cons.mpr ⟨lw_p12, List.forall_mem_cons.mpr ⟨lw_p13, List.forall_mem_cons.mpr ⟨lw_p14, List.forall_mem_cons.mpr ⟨lw_p15, fun _ h => absurd h List.not_mem_nil⟩⟩⟩⟩⟩⟩⟩⟩⟩⟩⟩⟩⟩⟩⟩⟩
theorem lw_p16 : lw_okq (⟨"FermionMapsModel", "findImage", "()V"⟩, 25) := ⟨⟨by decide +kernel, by decide +kernel⟩, List.mem_of_getElem? (i := 428) (by decide +kernel), List.mem_of_getElem? (i := 620) (by decide +kernel), List.mem_of_getElem? (i := 621) (by decide +kernel)⟩
theorem lw_p17 : lw_okq (⟨"FermionMapsModel", "addUp", "(I)V"⟩, 25) := ⟨⟨by decide +kernel, by decide +kernel⟩, List.mem_of_getElem? (i := 428) (by decide +kernel), List.mem_of_getElem? (i := 624) (by decide +kernel), List.mem_of_getElem? (i := 625) (by decide +kernel)⟩
theorem lw_p18 : lw_okq (⟨"FermionMapsModel", "listImage", "()V"⟩, 25) := ⟨⟨by decide +kernel, by decide +kernel⟩, List.mem_of_getElem? (i := 428) (by decide +kernel), List.mem_of_getElem? (i := 628) (by decide +kernel), List.mem_of_getElem? (i := 629) (by decide +kernel)⟩
theorem lw_p19 : lw_okq (⟨"FermionMapsModel", "isAllEven", "()Z"⟩, 25) := ⟨⟨by decide +kernel, by decide +kernel⟩, List.mem_of_getElem? (i := 428) (by decide +kernel), List.mem_of_getElem? (i := 632) (by decide +kernel), List.mem_of_getElem? (i := 633) (by decide +kernel)⟩
def lw_privs_2 : List (MethodName × Nat) := [(⟨"FermionMapsModel", "findImage", "()V"⟩, 25), (⟨"FermionMapsModel", "addUp", "(I)V"⟩, 25), (⟨"FermionMapsModel", "listImage", "()V"⟩, 25), (⟨"FermionMapsModel", "isAllEven", "()Z"⟩, 25)]
theorem lw_r2 : ∀ q ∈ lw_privs_2, lw_okq q := List.forall_mem_cons.mpr ⟨lw_p16, List.forall_mem_cons.mpr ⟨lw_p17, List.forall_mem_cons.mpr ⟨lw_p18, List.forall_mem_cons.mpr ⟨lw_p19, fun _ h => absurd h List.not_mem_nil⟩⟩⟩⟩
def lw_privs : List (MethodName × Nat) := lw_privs_1 ++ (lw_privs_2)
def lw_tbl : List Cond := k2_sels lw_privs ++ tables_1
theorem lw_privs_ok : ∀ q ∈ lw_privs, lw_okq q := by
  show ∀ q ∈ lw_privs_1 ++ (lw_privs_2), lw_okq q
  exact List.forall_mem_append.mpr ⟨lw_r1, lw_r2⟩
-- ===== end of PART A
/-- the tables' words that stay good under every call -/
def T0 : List Cond := lw_tbl.filter goodWord
theorem T0_of {w : Cond} (h : w ∈ lw_tbl) (g : goodWord w = true) : w ∈ T0 := List.mem_filter.mpr ⟨h, g⟩
theorem T0_tb {w : Cond} {i : Nat} (h : tables_1[i]? = some w) (g : goodWord w = true) : w ∈ T0 := T0_of (List.mem_append_right _ (List.mem_of_getElem? h)) g
theorem T0_pr {y : MethodName} {i : Nat} {n : Nat} (h : lw_privs[i]? = some (y, n)) (g : goodWord (Cond.selects y.cls y y) = true) : Cond.selects y.cls y y ∈ T0 := T0_of (List.mem_append_left _ (List.mem_map.mpr ⟨(y, n), List.mem_of_getElem? h, rfl⟩)) g
theorem T0_good {w : Cond} (h : w ∈ T0) : goodWord w = true := (List.mem_filter.mp h).2
theorem T0_in {ws : List Cond} (h : ∀ w ∈ ws, w ∈ T0) : GoodIn T0 ws := fun w hw => ⟨h w hw, good_of_word (T0_good (h w hw))⟩
def F_Pi : u_T := fun k => match k with
  | 0 => ("FermionMaps$Picture", "flipsOf", "[I", true)
  | 1 => ("FermionMaps$Picture", "termsAt", "[I", true)
  | 2 => ("FermionMaps$Picture", "numbers", "[J", true)
  | 3 => ("FermionMaps$Picture", "spread", "[I", true)
  | 4 => ("FermionMaps$Picture", "drawn", "Z", false)
  | 5 => ("FermionMaps$Picture", "held", "I", false)
  | 6 => ("FermionMaps$Picture", "terms", "I", false)
  | 7 => ("FermionMaps$Picture", "widest", "I", false)
  | 8 => ("FermionMaps$Picture", "halvings", "I", false)
  | _ => ("FermionMaps$Picture", "foundSigns", "I", false)
def t_Pi : Nat → FieldType := fun k => match k with
  | 0 => .array .int
  | 1 => .array .int
  | 2 => .array .long
  | 3 => .array .int
  | 4 => .boolean
  | 5 => .int
  | 6 => .int
  | 7 => .int
  | 8 => .int
  | _ => .int
theorem n_Pi : ∀ a, a < 10 → ∀ b, b < 10 → a ≠ b → (F_Pi a).2.1 ≠ (F_Pi b).2.1 := by decide +kernel
theorem t_Pi_ok : ∀ k, k < 10 → parseFieldDescriptor (F_Pi k).2.2.1 = some (t_Pi k) := by decide +kernel
def F_Su : u_T := fun k => match k with
  | 0 => ("FermionMaps$Sum", "keys", "[I", false)
  | 1 => ("FermionMaps$Sum", "numbers", "[I", false)
  | 2 => ("FermionMaps$Sum", "spareKeys", "[I", false)
  | 3 => ("FermionMaps$Sum", "spareNumbers", "[I", false)
  | _ => ("FermionMaps$Sum", "count", "I", false)
def t_Su : Nat → FieldType := fun k => match k with
  | 0 => .array .int
  | 1 => .array .int
  | 2 => .array .int
  | 3 => .array .int
  | _ => .int
theorem n_Su : ∀ a, a < 5 → ∀ b, b < 5 → a ≠ b → (F_Su a).2.1 ≠ (F_Su b).2.1 := by decide +kernel
theorem t_Su_ok : ∀ k, k < 5 → parseFieldDescriptor (F_Su k).2.2.1 = some (t_Su k) := by decide +kernel
def F_Wi : u_T := fun k => match k with
  | 0 => ("FermionMaps$Wiring", "told", "[I", true)
  | 1 => ("FermionMaps$Wiring", "rows", "[I", true)
  | 2 => ("FermionMaps$Wiring", "back", "[I", false)
  | 3 => ("FermionMaps$Wiring", "spareBack", "[I", false)
  | 4 => ("FermionMaps$Wiring", "left", "[I", true)
  | 5 => ("FermionMaps$Wiring", "size", "I", false)
  | _ => ("FermionMaps$Wiring", "kind", "I", false)
def t_Wi : Nat → FieldType := fun k => match k with
  | 0 => .array .int
  | 1 => .array .int
  | 2 => .array .int
  | 3 => .array .int
  | 4 => .array .int
  | 5 => .int
  | _ => .int
theorem n_Wi : ∀ a, a < 7 → ∀ b, b < 7 → a ≠ b → (F_Wi a).2.1 ≠ (F_Wi b).2.1 := by decide +kernel
theorem t_Wi_ok : ∀ k, k < 7 → parseFieldDescriptor (F_Wi k).2.2.1 = some (t_Wi k) := by decide +kernel
def F_FM : u_T := fun k => match k with
  | 0 => ("FermionMaps", "sum", "LFermionMaps$Sum;", true)
  | 1 => ("FermionMaps", "wiring", "LFermionMaps$Wiring;", true)
  | _ => ("FermionMaps", "picture", "LFermionMaps$Picture;", true)
def t_FM : Nat → FieldType := fun k => match k with
  | 0 => .object "FermionMaps$Sum"
  | 1 => .object "FermionMaps$Wiring"
  | _ => .object "FermionMaps$Picture"
theorem n_FM : ∀ a, a < 3 → ∀ b, b < 3 → a ≠ b → (F_FM a).2.1 ≠ (F_FM b).2.1 := by decide +kernel
theorem t_FM_ok : ∀ k, k < 3 → parseFieldDescriptor (F_FM k).2.2.1 = some (t_FM k) := by decide +kernel
def F_Mo : u_T := fun k => match k with
  | 0 => ("FermionMapsModel", "thrown", "I", false)
  | 1 => ("FermionMapsModel", "modes", "I", false)
  | 2 => ("FermionMapsModel", "products", "I", false)
  | 3 => ("FermionMapsModel", "upsOf", "[I", true)
  | 4 => ("FermionMapsModel", "downsOf", "[I", true)
  | 5 => ("FermionMapsModel", "numberOf", "[J", true)
  | 6 => ("FermionMapsModel", "wayKind", "I", false)
  | 7 => ("FermionMapsModel", "rowOf", "[I", true)
  | 8 => ("FermionMapsModel", "writes", "[I", true)
  | 9 => ("FermionMapsModel", "reads", "[I", true)
  | 10 => ("FermionMapsModel", "isImageKnown", "Z", false)
  | 11 => ("FermionMapsModel", "madeState", "I", false)
  | 12 => ("FermionMapsModel", "madeSign", "I", false)
  | 13 => ("FermionMapsModel", "matrix", "[J", true)
  | 14 => ("FermionMapsModel", "other", "[J", true)
  | 15 => ("FermionMapsModel", "newMany", "I", false)
  | 16 => ("FermionMapsModel", "newUps", "[I", true)
  | 17 => ("FermionMapsModel", "newDowns", "[I", true)
  | 18 => ("FermionMapsModel", "newNumber", "[J", true)
  | 19 => ("FermionMapsModel", "found", "[J", true)
  | 20 => ("FermionMapsModel", "image", "[J", true)
  | 21 => ("FermionMapsModel", "imagePlace", "[I", true)
  | 22 => ("FermionMapsModel", "imagePower", "I", false)
  | 23 => ("FermionMapsModel", "imageMany", "I", false)
  | _ => ("FermionMapsModel", "imageWires", "I", false)
def t_Mo : Nat → FieldType := fun k => match k with
  | 0 => .int
  | 1 => .int
  | 2 => .int
  | 3 => .array .int
  | 4 => .array .int
  | 5 => .array .long
  | 6 => .int
  | 7 => .array .int
  | 8 => .array .int
  | 9 => .array .int
  | 10 => .boolean
  | 11 => .int
  | 12 => .int
  | 13 => .array .long
  | 14 => .array .long
  | 15 => .int
  | 16 => .array .int
  | 17 => .array .int
  | 18 => .array .long
  | 19 => .array .long
  | 20 => .array .long
  | 21 => .array .int
  | 22 => .int
  | 23 => .int
  | _ => .int
theorem n_Mo : ∀ a, a < 25 → ∀ b, b < 25 → a ≠ b → (F_Mo a).2.1 ≠ (F_Mo b).2.1 := by decide +kernel
theorem t_Mo_ok : ∀ k, k < 25 → parseFieldDescriptor (F_Mo k).2.2.1 = some (t_Mo k) := by decide +kernel
abbrev cls : List vw_C := [("FermionMaps$Picture", F_Pi, 10), ("FermionMaps$Sum", F_Su, 5), ("FermionMaps$Wiring", F_Wi, 7), ("FermionMaps", F_FM, 3), ("FermionMapsModel", F_Mo, 25)]
def y_FM_init : MethodName := ⟨"FermionMaps", "<init>", "()V"⟩
def y_Su_init : MethodName := ⟨"FermionMaps$Sum", "<init>", "()V"⟩
def y_Wi_init : MethodName := ⟨"FermionMaps$Wiring", "<init>", "()V"⟩
def y_Pi_init : MethodName := ⟨"FermionMaps$Picture", "<init>", "()V"⟩
def y_Wi_reset : MethodName := ⟨"FermionMaps$Wiring", "reset", "(I)V"⟩
def y_FM_begin : MethodName := ⟨"FermionMaps", "begin", "(I)Z"⟩
def y_FM_add : MethodName := ⟨"FermionMaps", "add", "(III)I"⟩
def y_FM_isSet : MethodName := ⟨"FermionMaps", "isSet", "(I)Z"⟩
def y_FM_isBeyond : MethodName := ⟨"FermionMaps", "isBeyond", "(I)Z"⟩
def y_Su_take : MethodName := ⟨"FermionMaps$Sum", "take", "(II)Z"⟩
def y_Su_change : MethodName := ⟨"FermionMaps$Sum", "change", "(II)Z"⟩
def y_Su_strike : MethodName := ⟨"FermionMaps$Sum", "strike", "(I)V"⟩
def y_Su_insert : MethodName := ⟨"FermionMaps$Sum", "insert", "(III)V"⟩
def y_FM_ladder : MethodName := ⟨"FermionMaps", "ladder", "(IZZ)I"⟩
def y_Su_climb : MethodName := ⟨"FermionMaps$Sum", "climb", "(IZZ)Z"⟩
def y_Su_merge : MethodName := ⟨"FermionMaps$Sum", "merge", "(IIII)Z"⟩
def y_Su_seek : MethodName := ⟨"FermionMaps$Sum", "seek", "(III)I"⟩
def y_Ma_min : MethodName := ⟨"java/lang/Math", "min", "(II)I"⟩
def y_Su_signed : MethodName := ⟨"FermionMaps$Sum", "signed", "(II)I"⟩
def y_FM_isOdd : MethodName := ⟨"FermionMaps", "isOdd", "(I)Z"⟩
def y_In_bitCount : MethodName := ⟨"java/lang/Integer", "bitCount", "(I)I"⟩
def y_Su_useSpare : MethodName := ⟨"FermionMaps$Sum", "useSpare", "(I)V"⟩
def y_FM_clear : MethodName := ⟨"FermionMaps", "clear", "()V"⟩
def y_FM_way : MethodName := ⟨"FermionMaps", "way", "(I)Z"⟩
def y_Wi_choose : MethodName := ⟨"FermionMaps$Wiring", "choose", "(I)Z"⟩
def y_Wi_turnRound : MethodName := ⟨"FermionMaps$Wiring", "turnRound", "(I)Z"⟩
def y_Wi_rowOf : MethodName := ⟨"FermionMaps$Wiring", "rowOf", "(II)I"⟩
def y_Wi_bringUp : MethodName := ⟨"FermionMaps$Wiring", "bringUp", "(I)Z"⟩
def y_FM_has : MethodName := ⟨"FermionMaps", "has", "(II)Z"⟩
def y_FM_row : MethodName := ⟨"FermionMaps", "row", "(II)Z"⟩
def y_FM_written : MethodName := ⟨"FermionMaps", "written", "(I)I"⟩
def y_Wi_bits : MethodName := ⟨"FermionMaps$Wiring", "bits", "([II)I"⟩
def y_FM_read : MethodName := ⟨"FermionMaps", "read", "(I)I"⟩
def y_FM_total : MethodName := ⟨"FermionMaps", "total", "(I)I"⟩
def y_Pi_draw : MethodName := ⟨"FermionMaps$Picture", "draw", "(LFermionMaps$Sum;LFermionMaps$Wiring;)V"⟩
def y_Pi_markFlips : MethodName := ⟨"FermionMaps$Picture", "markFlips", "(LFermionMaps$Sum;LFermionMaps$Wiring;)V"⟩
def y_Su_upsOf : MethodName := ⟨"FermionMaps$Sum", "upsOf", "(I)I"⟩
def y_Su_downsOf : MethodName := ⟨"FermionMaps$Sum", "downsOf", "(I)I"⟩
def y_Pi_hold : MethodName := ⟨"FermionMaps$Picture", "hold", "(ILFermionMaps$Sum;LFermionMaps$Wiring;)V"⟩
def y_Pi_bring : MethodName := ⟨"FermionMaps$Picture", "bring", "(IIILFermionMaps$Wiring;)V"⟩
def y_FM_oddBelow : MethodName := ⟨"FermionMaps", "oddBelow", "(I)I"⟩
def y_Wi_signsOf : MethodName := ⟨"FermionMaps$Wiring", "signsOf", "(I)I"⟩
def y_FM_turnsAlways : MethodName := ⟨"FermionMaps", "turnsAlways", "(II)Z"⟩
def y_Pi_doubled : MethodName := ⟨"FermionMaps$Picture", "doubled", "(II)I"⟩
def y_Pi_tally : MethodName := ⟨"FermionMaps$Picture", "tally", "(I)J"⟩
def y_Ma_max : MethodName := ⟨"java/lang/Math", "max", "(II)I"⟩
def y_Pi_leastHalvings : MethodName := ⟨"FermionMaps$Picture", "leastHalvings", "(JI)I"⟩
def y_Su_isEven : MethodName := ⟨"FermionMaps$Sum", "isEven", "()Z"⟩
def y_La_product : MethodName := ⟨"FermionMapsLaw", "product", "(LFermionMaps;II[J)I"⟩
def y_FM_product : MethodName := ⟨"FermionMaps", "product", "(II)I"⟩
def y_La_makes : MethodName := ⟨"FermionMapsLaw", "makes", "(LFermionMaps;II[J)I"⟩
def y_FM_makes : MethodName := ⟨"FermionMaps", "makes", "(II)J"⟩
def y_Su_between : MethodName := ⟨"FermionMaps$Sum", "between", "(II)J"⟩
def y_La_image : MethodName := ⟨"FermionMapsLaw", "image", "(LFermionMaps;II[J)I"⟩
def y_FM_image : MethodName := ⟨"FermionMaps", "image", "(II)J"⟩
def y_Pi_find : MethodName := ⟨"FermionMaps$Picture", "find", "(ILFermionMaps$Sum;LFermionMaps$Wiring;)V"⟩
def y_Pi_foundNumber : MethodName := ⟨"FermionMaps$Picture", "foundNumber", "(I)J"⟩
def y_Mo_init : MethodName := ⟨"FermionMapsModel", "<init>", "()V"⟩
def y_Mo_start : MethodName := ⟨"FermionMapsModel", "start", "(I)V"⟩
def y_Mo_writeAll : MethodName := ⟨"FermionMapsModel", "writeAll", "()V"⟩
def y_Mo_states : MethodName := ⟨"FermionMapsModel", "states", "()I"⟩
def y_Mo_write : MethodName := ⟨"FermionMapsModel", "write", "(II)I"⟩
def y_Mo_setOf : MethodName := ⟨"FermionMapsModel", "setOf", "(II)I"⟩
def y_Mo_ones : MethodName := ⟨"FermionMapsModel", "ones", "(I)I"⟩
def y_Mo_thrown : MethodName := ⟨"FermionMapsModel", "thrown", "()I"⟩
def y_Mo_begin : MethodName := ⟨"FermionMapsModel", "begin", "(I)Z"⟩
def y_Mo_add : MethodName := ⟨"FermionMapsModel", "add", "(III)I"⟩
def y_Mo_isState : MethodName := ⟨"FermionMapsModel", "isState", "(I)Z"⟩
def y_Mo_put : MethodName := ⟨"FermionMapsModel", "put", "(IIJ)Z"⟩
def y_Mo_take : MethodName := ⟨"FermionMapsModel", "take", "()I"⟩
def y_Mo_ladder : MethodName := ⟨"FermionMapsModel", "ladder", "(IZZ)I"⟩
def y_Mo_fillMatrix : MethodName := ⟨"FermionMapsModel", "fillMatrix", "()V"⟩
def y_Mo_make : MethodName := ⟨"FermionMapsModel", "make", "(III)Z"⟩
def y_Mo_climb : MethodName := ⟨"FermionMapsModel", "climb", "(IZ)Z"⟩
def y_Mo_multiply : MethodName := ⟨"FermionMapsModel", "multiply", "(IZZ)V"⟩
def y_Mo_readOff : MethodName := ⟨"FermionMapsModel", "readOff", "()Z"⟩
def y_Mo_clear : MethodName := ⟨"FermionMapsModel", "clear", "()V"⟩
def y_Mo_product : MethodName := ⟨"FermionMapsModel", "product", "(II)I"⟩
def y_Mo_raise : MethodName := ⟨"FermionMapsModel", "raise", "()I"⟩
def y_Mo_makes : MethodName := ⟨"FermionMapsModel", "makes", "(II)J"⟩
def y_Mo_way : MethodName := ⟨"FermionMapsModel", "way", "(I)Z"⟩
def y_Mo_row : MethodName := ⟨"FermionMapsModel", "row", "(II)Z"⟩
def y_Mo_written : MethodName := ⟨"FermionMapsModel", "written", "(I)I"⟩
def y_Mo_read : MethodName := ⟨"FermionMapsModel", "read", "(I)I"⟩
def y_Mo_image : MethodName := ⟨"FermionMapsModel", "image", "(II)J"⟩
def y_Mo_findImage : MethodName := ⟨"FermionMapsModel", "findImage", "()V"⟩
def y_Mo_addUp : MethodName := ⟨"FermionMapsModel", "addUp", "(I)V"⟩
def y_Mo_listImage : MethodName := ⟨"FermionMapsModel", "listImage", "()V"⟩
def y_Mo_isAllEven : MethodName := ⟨"FermionMapsModel", "isAllEven", "()Z"⟩
def y_Mo_total : MethodName := ⟨"FermionMapsModel", "total", "(I)I"⟩
def nestL : List (String × Nat × MethodName × String) := [("FermionMaps", 9, ⟨"FermionMaps$Sum", "<init>", "()V"⟩, "FermionMaps"), ("FermionMaps", 18, ⟨"FermionMaps$Wiring", "<init>", "()V"⟩, "FermionMaps"), ("FermionMaps", 25, ⟨"FermionMaps$Picture", "<init>", "()V"⟩, "FermionMaps"), ("FermionMaps$Sum", 58, ⟨"FermionMaps", "isBeyond", "(I)Z"⟩, "FermionMaps"), ("FermionMaps$Sum", 43, ⟨"FermionMaps", "isOdd", "(I)Z"⟩, "FermionMaps"), ("FermionMaps$Wiring", 45, ⟨"FermionMaps", "has", "(II)Z"⟩, "FermionMaps"), ("FermionMaps$Wiring", 49, ⟨"FermionMaps", "isOdd", "(I)Z"⟩, "FermionMaps"), ("FermionMaps$Picture", 102, ⟨"FermionMaps", "oddBelow", "(I)I"⟩, "FermionMaps"), ("FermionMaps$Picture", 108, ⟨"FermionMaps", "turnsAlways", "(II)Z"⟩, "FermionMaps"), ("FermionMaps$Picture", 112, ⟨"FermionMaps", "has", "(II)Z"⟩, "FermionMaps"), ("FermionMaps$Sum", 40, ⟨"FermionMaps", "oddBelow", "(I)I"⟩, "FermionMaps"), ("FermionMaps$Sum", 47, ⟨"FermionMaps", "turnsAlways", "(II)Z"⟩, "FermionMaps")]
