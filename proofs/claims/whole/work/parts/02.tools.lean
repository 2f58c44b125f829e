/-! pure words: naming, checks, sequencing -/
def nm {α β : Type} (x : α) (k : α → β) : β := k x
theorem nm_eq {α β : Type} {x y : α} {k : α → β} {r : β} (h : y = x) (hf : nm x k = r) : k y = r := by subst h; exact hf
theorem bd {α β : Type} {o : Option α} {k : α → Option β} {r : β} (hf : o.bind k = some r) : ∃ x, o = some x ∧ k x = some r := by
  cases o with
  | none => cases hf
  | some x => exact ⟨x, rfl, hf⟩
def ckI {β : Type} (i : Int32) (n : Nat) (k : Option β) : Option β := if i < 0 ∨ n ≤ i.toNatClampNeg then none else k
theorem ckI_ok {β : Type} {i : Int32} {n : Nat} {k : Option β} {r : β} (hf : ckI i n k = some r) : vp_in i n ∧ k = some r := by
  unfold ckI at hf
  by_cases h : i < 0 ∨ n ≤ i.toNatClampNeg
  · rw [if_pos h] at hf; cases hf
  · rw [if_neg h] at hf; exact ⟨h, hf⟩
def ckB {β : Type} (v : Int32) (k : Option β) : Option β := if v = 0 ∨ v = 1 then k else none
theorem ckB_ok {β : Type} {v : Int32} {k : Option β} {r : β} (hf : ckB v k = some r) : narrow .boolean (.int v) = .int v ∧ k = some r := by
  unfold ckB at hf
  by_cases h : v = 0 ∨ v = 1
  · rw [if_pos h] at hf
    refine ⟨?_, hf⟩
    rcases h with rfl | rfl <;> rfl
  · rw [if_neg h] at hf; cases hf
def ckZ {β : Type} (v : Int32) (k : Option β) : Option β := if v = 0 then none else k
theorem ckZ_ok {β : Type} {v : Int32} {k : Option β} {r : β} (hf : ckZ v k = some r) : ¬ v = 0 ∧ k = some r := by
  unfold ckZ at hf
  by_cases h : v = 0
  · rw [if_pos h] at hf; cases hf
  · rw [if_neg h] at hf; exact ⟨h, hf⟩
def ckZl {β : Type} (v : Int64) (k : Option β) : Option β := if v = 0 then none else k
theorem ckZl_ok {β : Type} {v : Int64} {k : Option β} {r : β} (hf : ckZl v k = some r) : ¬ v = 0 ∧ k = some r := by
  unfold ckZl at hf
  by_cases h : v = 0
  · rw [if_pos h] at hf; cases hf
  · rw [if_neg h] at hf; exact ⟨h, hf⟩
theorem if_t {β : Type} {c : Prop} [Decidable c] {a b r : β} (h : c) (hf : (if c then a else b) = r) : a = r := by rw [if_pos h] at hf; exact hf
theorem if_f {β : Type} {c : Prop} [Decidable c] {a b r : β} (h : ¬ c) (hf : (if c then a else b) = r) : b = r := by rw [if_neg h] at hf; exact hf
theorem no_fuel {β : Type} {r : β} {P : Prop} (h : (none : Option β) = some r) : P := by cases h
/-! what the nest mates' calls link, carried with the world -/
def NW (U : State) : Prop := ∀ q ∈ nestL, va_Nw (.methodLinkNest q.1 q.2.1 q.2.2.1 q.2.2.2) U
theorem NW.warm {s U : State} (hW : s.WarmedH U.vm) (h : NW s) : NW U := fun q hq => va_Nw.warmM hW (h q hq)
theorem NW.same {u U : State} (hv : u.vm = U.vm) (h : NW u) : NW U := fun q hq => va_Nw.same rfl hv (h q hq)
def Wr (D : va_G) (ws : va_W) (tys : List (ClassId × FieldType)) (U : State) : Prop := va_P D cls ws U.heap ∧ va_K D cls tys U ∧ NW U
def Ww (D : va_G) (ws : va_W) (tys : List (ClassId × FieldType)) (sz : Nat) (U : State) : Prop := U.heap.size = sz ∧ va_P D cls ws U.heap ∧ va_K D cls tys U ∧ va_D (fun _ => True) ws ∧ NW U
def Bw (D : va_G) (tys : List (ClassId × FieldType)) (A : Nat → Prop) (Rw : va_W → Prop) : Unit → State → Prop := fun _ t => ∃ w1, Rw w1 ∧ va_P D cls w1 t.heap ∧ va_K D cls tys t ∧ va_D A w1
theorem Wr_blind {D : va_G} {ws : va_W} {tys : List (ClassId × FieldType)} {av : List Value} : FrameBlind (va_Pc av (Wr D ws tys)) := fun a U g mk q => by
  obtain ⟨q0, qP, qK, qN⟩ := q
  exact ⟨q0, qP, va_K.moved (u := U) (U := U.calling g mk a) (Vm.Alike.refl U.vm) qK, NW.same (u := U) (U := U.calling g mk a) rfl qN⟩
theorem Ww_blind {D : va_G} {ws : va_W} {tys : List (ClassId × FieldType)} {av : List Value} {sz : Nat} : FrameBlind (va_Pc av (Ww D ws tys sz)) := fun a U g mk q => by
  obtain ⟨q0, q1, qP, qK, qD, qN⟩ := q
  exact ⟨q0, q1, qP, va_K.moved (u := U) (U := U.calling g mk a) (Vm.Alike.refl U.vm) qK, qD, NW.same (u := U) (U := U.calling g mk a) rfl qN⟩
/-! words of the calls, out of T0 -/
theorem gV {own : String} {idx : Nat} {C : String} {y : MethodName} {cd : Cond} (h1 : Cond.methodLink own idx y ∈ T0) (h2 : Cond.instanceMethod y ∈ T0) (h3 : Cond.selects C y y ∈ T0) (h4 : Cond.initialized C ∈ T0) (h5 : cd ∈ T0) : GoodIn T0 (wsV own idx C y (cd :: T0)) := T0_in (fun w hw => by
  unfold wsV at hw
  rcases List.mem_append.mp hw with h | h
  · simp only [List.mem_cons, List.not_mem_nil, or_false] at h
    rcases h with rfl | rfl | rfl | rfl <;> assumption
  · rcases List.mem_cons.mp h with rfl | h
    · exact h5
    · exact h)
theorem gS {own : String} {idx : Nat} {y : MethodName} {cd : Cond} (h1 : Cond.methodLink own idx y ∈ T0) (h2 : Cond.static y ∈ T0) (h4 : Cond.initialized y.cls ∈ T0) (h5 : cd ∈ T0) : GoodIn T0 (va_wsS own idx y (cd :: T0)) := T0_in (fun w hw => by
  unfold va_wsS at hw
  rcases List.mem_append.mp hw with h | h
  · simp only [List.mem_cons, List.not_mem_nil, or_false] at h
    rcases h with rfl | rfl | rfl <;> assumption
  · rcases List.mem_cons.mp h with rfl | h
    · exact h5
    · exact h)
theorem gC {cd : Cond} (h5 : cd ∈ T0) : GoodIn T0 (cd :: T0) := T0_in (fun w hw => by
  rcases List.mem_cons.mp hw with rfl | h
  · exact h5
  · exact h)
section TOOLS
variable {p : Program} {l : Launch} {e : Env} {R : Room} {s : State} {m : MethodId} {args : Array Value} {below : List Frame} {meth : Method} {c : Code} {H : Heap} {locs : List Loc} {cells slots : Nat} {Q : State → Prop} {pc : Nat} {ls : Array Slot} {D : va_G} {tys : List (ClassId × FieldType)} {ws wc wr : va_W} {A : Nat → Prop} {cc bytes : ByteArray} {nL maxL index n : Nat} {own C host : String} {y : MethodName} {ret : Option FieldType} {rm : Room} {b : Nat} {As rest st : List Value}
theorem W.nameQ {g : JFrame} (k : ∀ Q' : State → Prop, Q' = Q → W p l e R s m args below meth c H locs cells slots Q' g) : W p l e R s m args below meth c H locs cells slots Q g := k Q rfl
/-! readers -/
theorem rdV_run (S : CallFix p m c cc nL s args T0 own) {Qc : Array Value → State → Outcome → State → Prop} (hM : Met l y (Cond.code y bytes maxL ret :: T0) rm (va_Pc (.ref b :: As) (Wr D wc tys)) Qc 0 0 (fun _ => False)) (cw : CallW R s args own C index y bytes maxL ret (Cond.code y bytes maxL ret :: T0) rm 0 0 n) (hK : va_K D cls tys s) (hNW : NW s) (hP : va_P D cls ws H) (is : List Nat) (hs : is.filterMap (fun i => ws[i]?) = wc) {ci q0 N : Nat} {T : u_T} {fs : List Value} (hc : cls[ci]? = some (C, T, N)) (he : ws[q0]? = some (b, .inr (ci, fs))) (hn : As.length = n) (hsize : ls.size = nL) (hst : st = As.reverse ++ .ref b :: rest) (hW : (rest.map fun v => v.category).sum ≤ 8) (hdg : decode cc pc = .ok (.invokevirtual index, 3)) (hcs : cells ≤ R.cells ∧ slots ≤ R.slots) :
    CallRun p l e R s m args below meth c H locs cells slots 0 0 (F0 m pc ls st) rest (Qc (Value.ref b :: As).toArray) (fun _ => False) :=
  W.runV S hM cw ⟨Wr_blind, va_recv hK hP hc he, fun U hU hW => ⟨rfl, by rw [hU]; exact hP.sub is hs, va_K.moved hW.alike hK, NW.warm hW hNW⟩⟩ rfl hn hsize hst (lv_room hW) hdg hcs
theorem rdS_run (S : CallFix p m c cc nL s args T0 own) {Qc : Array Value → State → Outcome → State → Prop} (hM : Met l y (Cond.code y bytes maxL ret :: T0) rm (va_Pc As (Wr D wc tys)) Qc 0 0 (fun _ => False)) (cw : CallB R s args own index y bytes maxL ret (Cond.code y bytes maxL ret :: T0) rm 0 0 n ∧ (Cond.static y).before args s = true) (hK : va_K D cls tys s) (hNW : NW s) (hP : va_P D cls ws H) (is : List Nat) (hs : is.filterMap (fun i => ws[i]?) = wc) (hn : As.length = n) (hsize : ls.size = nL) (hst : st = As.reverse ++ rest) (hW : (rest.map fun v => v.category).sum ≤ 8) (hdg : decode cc pc = .ok (.invokestatic index, 3)) (hcs : cells ≤ R.cells ∧ slots ≤ R.slots) :
    CallRun p l e R s m args below meth c H locs cells slots 0 0 (F0 m pc ls st) rest (Qc As.toArray) (fun _ => False) :=
  W.runS S hM cw ⟨Wr_blind, fun U hU hW => ⟨rfl, by rw [hU]; exact hP.sub is hs, va_K.moved hW.alike hK, NW.warm hW hNW⟩⟩ rfl hn hsize hst (lv_room hW) hdg hcs
theorem rdSN_run (S : CallFix p m c cc nL s args T0 own) {Qc : Array Value → State → Outcome → State → Prop} (hM : Met l y (Cond.code y bytes maxL ret :: T0) rm (va_Pc As (Wr D wc tys)) Qc 0 0 (fun _ => False)) (cw : va_CN R s args own index y host bytes maxL ret (Cond.code y bytes maxL ret :: T0) rm 0 0 n ∧ (Cond.static y).before args s = true ∧ True) (hK : va_K D cls tys s) (hNW : NW s) (hP : va_P D cls ws H) (is : List Nat) (hs : is.filterMap (fun i => ws[i]?) = wc) (hn : As.length = n) (hsize : ls.size = nL) (hst : st = As.reverse ++ rest) (hW : (rest.map fun v => v.category).sum ≤ 8) (hdg : decode cc pc = .ok (.invokestatic index, 3)) (hcs : cells ≤ R.cells ∧ slots ≤ R.slots) :
    CallRun p l e R s m args below meth c H locs cells slots 0 0 (F0 m pc ls st) rest (Qc As.toArray) (fun _ => False) :=
  (va_runSN S hM cw ⟨Wr_blind, fun U hU hW => ⟨rfl, by rw [hU]; exact hP.sub is hs, va_K.moved hW.alike hK, NW.warm hW hNW⟩⟩ rfl hn hsize hst (lv_room hW) hdg hcs).run
theorem rd_i {v : Int32} {a : Array Value} (hr : CallRun p l e R s m args below meth c H locs cells slots 0 0 (F0 m pc ls st) rest (vp_Si (fun r => r = v) a) (fun _ => False)) (kk : W p l e R s m args below meth c H locs cells slots Q (F0 m (pc + 3) ls (.int v :: rest))) : W p l e R s m args below meth c H locs cells slots Q (F0 m pc ls st) := vp_callSi hr (fun r h => by rw [h]; exact kk)
theorem rd_l {v : Int64} {a : Array Value} (hr : CallRun p l e R s m args below meth c H locs cells slots 0 0 (F0 m pc ls st) rest (vp_Sl (fun r => r = v) a) (fun _ => False)) (kk : W p l e R s m args below meth c H locs cells slots Q (F0 m (pc + 3) ls (.long v :: rest))) : W p l e R s m args below meth c H locs cells slots Q (F0 m pc ls st) := vp_callSl hr (fun r h => by rw [h]; exact kk)
theorem rt_i {v u : Int32} {ar : Array Value} (hQ : Q = MQ below (vp_Si (fun r => r = u)) ar s 0 0 (fun _ => False)) (hv : v = u) (hx : p.tables.exec = Jvm.exec) (hb : c.code = cc) (hr : meth.sig.returnType = some .int) (hlocks : meth.locks = false) (hdg : decode cc pc = .ok (.ireturn, 1)) : W p l e R s m ar below meth c s.heap [] 0 0 Q (F0 m pc ls [.int v]) := by
  subst hQ
  exact W.iret hx hb hr (fun t ht _ => ⟨v, rfl, hv, ht⟩) (fun _ h => absurd h List.not_mem_nil) hdg
theorem rt_z {v u : Int32} {ar : Array Value} (hQ : Q = MQ below (vp_Si (fun r => r = u)) ar s 0 0 (fun _ => False)) (hv : v = u) (hz : narrow .boolean (.int v) = .int v) (hx : p.tables.exec = Jvm.exec) (hb : c.code = cc) (hr : meth.sig.returnType = some .boolean) (hlocks : meth.locks = false) (hdg : decode cc pc = .ok (.ireturn, 1)) : W p l e R s m ar below meth c s.heap [] 0 0 Q (F0 m pc ls [.int v]) := by
  subst hQ
  exact W.zret hx hb hr hz (fun t ht _ => ⟨v, rfl, hv, ht⟩) (fun _ h => absurd h List.not_mem_nil) hdg
theorem rt_l {v u : Int64} {ar : Array Value} (hQ : Q = MQ below (vp_Sl (fun r => r = u)) ar s 0 0 (fun _ => False)) (hv : v = u) (hx : p.tables.exec = Jvm.exec) (hb : c.code = cc) (hr : meth.sig.returnType = some .long) (hlocks : meth.locks = false) (hdg : decode cc pc = .ok (.lreturn, 1)) : W p l e R s m ar below meth c s.heap [] 0 0 Q (F0 m pc ls [.long v]) := by
  subst hQ
  exact W.lret hx hb hr (fun t ht _ => ⟨v, rfl, hv, ht⟩) (fun _ h => absurd h List.not_mem_nil) hdg
/-! writers -/
theorem wrV_run (S : CallFix p m c cc nL s args T0 own) {Qc : Array Value → State → Outcome → State → Prop} {free : Addr → Prop} (hM : Met l y (Cond.code y bytes maxL ret :: T0) rm (va_Pc (.ref b :: As) (Ww D wc tys H.size)) Qc 0 0 free) (cw : CallW R s args own C index y bytes maxL ret (Cond.code y bytes maxL ret :: T0) rm 0 0 n) (hK : va_K D cls tys s) (hNW : NW s) (hP : va_P D cls ws H) (hD : va_D A ws) (is : List Nat) (hs : is.filterMap (fun i => ws[i]?) = wc) (hC : is.map (fun i => ws[i]?) = wc.map some) (hnd : va_nd is = true) {ci q0 N : Nat} {T : u_T} {fs : List Value} (hc : cls[ci]? = some (C, T, N)) (he : ws[q0]? = some (b, .inr (ci, fs))) (hn : As.length = n) (hsize : ls.size = nL) (hst : st = As.reverse ++ .ref b :: rest) (hW : (rest.map fun v => v.category).sum ≤ 8) (hdg : decode cc pc = .ok (.invokevirtual index, 3)) (hcs : cells ≤ R.cells ∧ slots ≤ R.slots) :
    va_Run p l e R s m args below meth c H locs cells slots 0 0 (F0 m pc ls st) rest (Qc (Value.ref b :: As).toArray) free :=
  va_runV S hM cw ⟨Ww_blind, va_recv hK hP hc he, fun U hU hW => ⟨rfl, by rw [hU], by rw [hU]; exact hP.sub is hs, va_K.moved hW.alike hK, (hD.sub is hnd hC).weaken (fun _ _ _ _ => trivial), NW.warm hW hNW⟩⟩ rfl hn hsize hst (lv_room hW) hdg hcs
theorem wr_v {a : Array Value} {Rw : va_W → Prop} (hr : va_Run p l e R s m args below meth c H locs cells slots 0 0 (F0 m pc ls st) rest (va_Qv (fun _ : Unit => True) (Bw D tys (va_A wc H.size) Rw) (va_A wc H.size) a) (va_A wc H.size)) (hP : va_P D cls ws H) (hD : va_D A ws) (hS : va_S A s.heap H locs) (hA : ∀ q, s.heap.size ≤ q → A q) (isC isR : List Nat) (hC : isC.map (fun i => ws[i]?) = wc.map some) (hR : isR.map (fun i => ws[i]?) = wr.map some) (hn : va_nd isR = true) (hdis : ∀ i ∈ isR, i ∉ isC)
    (kk : ∀ (w1 : va_W) (H1 : Heap) (locs1 : List Loc), Rw w1 → va_P D cls (wr ++ w1) H1 → va_D A (wr ++ w1) → va_S A s.heap H1 locs1 → W p l e R s m args below meth c H1 locs1 cells slots Q (F0 m (pc + 3) ls rest)) : W p l e R s m args below meth c H locs cells slots Q (F0 m pc ls st) := by
  have hF := va_free (wc := wc) hD hS hA isC hC
  refine va_callv hr hS (fun q _ h => hF q h) hF (fun u t H1 locs1 ht hvm _ hB hz1 hk1 hS1 => ?_)
  obtain ⟨w1, hRw, hP1, hK1, hD1⟩ := hB
  rw [ht] at hP1
  obtain ⟨hP2, hD2⟩ := va_join hP hD isC isR hC hR hn hdis hk1 hF hP1 hD1
  exact kk w1 H1 locs1 hRw hP2 hD2 hS1
theorem wr_i {a : Array Value} {v : Int32} {Rw : va_W → Prop} (hr : va_Run p l e R s m args below meth c H locs cells slots 0 0 (F0 m pc ls st) rest (va_Qi (fun r (_ : Unit) => r = v) (Bw D tys (va_A wc H.size) Rw) (va_A wc H.size) a) (va_A wc H.size)) (hP : va_P D cls ws H) (hD : va_D A ws) (hS : va_S A s.heap H locs) (hA : ∀ q, s.heap.size ≤ q → A q) (isC isR : List Nat) (hC : isC.map (fun i => ws[i]?) = wc.map some) (hR : isR.map (fun i => ws[i]?) = wr.map some) (hn : va_nd isR = true) (hdis : ∀ i ∈ isR, i ∉ isC)
    (kk : ∀ (w1 : va_W) (H1 : Heap) (locs1 : List Loc), Rw w1 → va_P D cls (wr ++ w1) H1 → va_D A (wr ++ w1) → va_S A s.heap H1 locs1 → W p l e R s m args below meth c H1 locs1 cells slots Q (F0 m (pc + 3) ls (.int v :: rest))) : W p l e R s m args below meth c H locs cells slots Q (F0 m pc ls st) := by
  have hF := va_free (wc := wc) hD hS hA isC hC
  refine va_calli hr hS (fun q _ h => hF q h) hF (fun r u t H1 locs1 ht hvm hv hB hz1 hk1 hS1 => ?_)
  obtain ⟨w1, hRw, hP1, hK1, hD1⟩ := hB
  rw [ht] at hP1
  obtain ⟨hP2, hD2⟩ := va_join hP hD isC isR hC hR hn hdis hk1 hF hP1 hD1
  rw [hv]
  exact kk w1 H1 locs1 hRw hP2 hD2 hS1
theorem wr_l {a : Array Value} {v : Int64} {Rw : va_W → Prop} (hr : va_Run p l e R s m args below meth c H locs cells slots 0 0 (F0 m pc ls st) rest (va_Ql (fun r (_ : Unit) => r = v) (Bw D tys (va_A wc H.size) Rw) (va_A wc H.size) a) (va_A wc H.size)) (hP : va_P D cls ws H) (hD : va_D A ws) (hS : va_S A s.heap H locs) (hA : ∀ q, s.heap.size ≤ q → A q) (isC isR : List Nat) (hC : isC.map (fun i => ws[i]?) = wc.map some) (hR : isR.map (fun i => ws[i]?) = wr.map some) (hn : va_nd isR = true) (hdis : ∀ i ∈ isR, i ∉ isC)
    (kk : ∀ (w1 : va_W) (H1 : Heap) (locs1 : List Loc), Rw w1 → va_P D cls (wr ++ w1) H1 → va_D A (wr ++ w1) → va_S A s.heap H1 locs1 → W p l e R s m args below meth c H1 locs1 cells slots Q (F0 m (pc + 3) ls (.long v :: rest))) : W p l e R s m args below meth c H locs cells slots Q (F0 m pc ls st) := by
  have hF := va_free (wc := wc) hD hS hA isC hC
  refine va_calll hr hS (fun q _ h => hF q h) hF (fun r u t H1 locs1 ht hvm hv hB hz1 hk1 hS1 => ?_)
  obtain ⟨w1, hRw, hP1, hK1, hD1⟩ := hB
  rw [ht] at hP1
  obtain ⟨hP2, hD2⟩ := va_join hP hD isC isR hC hR hn hdis hk1 hF hP1 hD1
  rw [hv]
  exact kk w1 H1 locs1 hRw hP2 hD2 hS1
theorem rw_v {ar : Array Value} {Rw : va_W → Prop} (hQ : Q = MQ below (va_Qv (fun _ : Unit => True) (Bw D tys A Rw) A) ar s cells slots A) (hRw : Rw ws) (hP : va_P D cls ws H) (hD : va_D A ws) (hK : va_K D cls tys s) (hS : va_S A s.heap H locs) (hx : p.tables.exec = Jvm.exec) (hb : c.code = cc) (hr : meth.sig.returnType = none) (hlocks : meth.locks = false) (hdg : decode cc pc = .ok (.return_, 1)) : W p l e R s m ar below meth c H locs cells slots Q (F0 m pc ls []) := by
  subst hQ
  exact W.vret hx hb hr (fun t ht hW => ⟨⟨(), rfl, trivial, ws, hRw, by rw [ht]; exact hP, va_K.moved hW.alike hK, hD⟩, hS.F ht⟩) hS.2.2 hdg
theorem rw_i {ar : Array Value} {v u : Int32} {Rw : va_W → Prop} (hQ : Q = MQ below (va_Qi (fun r (_ : Unit) => r = u) (Bw D tys A Rw) A) ar s cells slots A) (hv : v = u) (hRw : Rw ws) (hP : va_P D cls ws H) (hD : va_D A ws) (hK : va_K D cls tys s) (hS : va_S A s.heap H locs) (hx : p.tables.exec = Jvm.exec) (hb : c.code = cc) (hr : meth.sig.returnType = some .int) (hlocks : meth.locks = false) (hdg : decode cc pc = .ok (.ireturn, 1)) : W p l e R s m ar below meth c H locs cells slots Q (F0 m pc ls [.int v]) := by
  subst hQ
  exact W.iret hx hb hr (fun t ht hW => ⟨⟨v, (), rfl, hv, ws, hRw, by rw [ht]; exact hP, va_K.moved hW.alike hK, hD⟩, hS.F ht⟩) hS.2.2 hdg
theorem rw_z {ar : Array Value} {v u : Int32} {Rw : va_W → Prop} (hQ : Q = MQ below (va_Qi (fun r (_ : Unit) => r = u) (Bw D tys A Rw) A) ar s cells slots A) (hv : v = u) (hz : narrow .boolean (.int v) = .int v) (hRw : Rw ws) (hP : va_P D cls ws H) (hD : va_D A ws) (hK : va_K D cls tys s) (hS : va_S A s.heap H locs) (hx : p.tables.exec = Jvm.exec) (hb : c.code = cc) (hr : meth.sig.returnType = some .boolean) (hlocks : meth.locks = false) (hdg : decode cc pc = .ok (.ireturn, 1)) : W p l e R s m ar below meth c H locs cells slots Q (F0 m pc ls [.int v]) := by
  subst hQ
  exact W.zret hx hb hr hz (fun t ht hW => ⟨⟨v, (), rfl, hv, ws, hRw, by rw [ht]; exact hP, va_K.moved hW.alike hK, hD⟩, hS.F ht⟩) hS.2.2 hdg
theorem rw_l {ar : Array Value} {v u : Int64} {Rw : va_W → Prop} (hQ : Q = MQ below (va_Ql (fun r (_ : Unit) => r = u) (Bw D tys A Rw) A) ar s cells slots A) (hv : v = u) (hRw : Rw ws) (hP : va_P D cls ws H) (hD : va_D A ws) (hK : va_K D cls tys s) (hS : va_S A s.heap H locs) (hx : p.tables.exec = Jvm.exec) (hb : c.code = cc) (hr : meth.sig.returnType = some .long) (hlocks : meth.locks = false) (hdg : decode cc pc = .ok (.lreturn, 1)) : W p l e R s m ar below meth c H locs cells slots Q (F0 m pc ls [.long v]) := by
  subst hQ
  exact W.lret hx hb hr (fun t ht hW => ⟨⟨v, (), rfl, hv, ws, hRw, by rw [ht]; exact hP, va_K.moved hW.alike hK, hD⟩, hS.F ht⟩) hS.2.2 hdg
end TOOLS
theorem sw_out5 {x : Int32} (h0 : ¬ x = 0) (h1 : ¬ x = 1) (h2 : ¬ x = 2) (h3 : ¬ x = 3) (h4 : ¬ x = 4) : x.toInt < 0 ∨ 4 < x.toInt := by
  have g0 : ¬ x.toInt = 0 := fun h => h0 (Int32.toInt_inj.mp (by rw [h]; rfl))
  have g1 : ¬ x.toInt = 1 := fun h => h1 (Int32.toInt_inj.mp (by rw [h]; rfl))
  have g2 : ¬ x.toInt = 2 := fun h => h2 (Int32.toInt_inj.mp (by rw [h]; rfl))
  have g3 : ¬ x.toInt = 3 := fun h => h3 (Int32.toInt_inj.mp (by rw [h]; rfl))
  have g4 : ¬ x.toInt = 4 := fun h => h4 (Int32.toInt_inj.mp (by rw [h]; rfl))
  omega
theorem sw_out12 {x : Int32} (h0 : ¬ x = 0) (h1 : ¬ x = 1) (h2 : ¬ x = 2) (h3 : ¬ x = 3) (h4 : ¬ x = 4) (h5 : ¬ x = 5) (h6 : ¬ x = 6) (h7 : ¬ x = 7) (h8 : ¬ x = 8) (h9 : ¬ x = 9) (h10 : ¬ x = 10) (h11 : ¬ x = 11) : x.toInt < 0 ∨ 11 < x.toInt := by
  have g0 : ¬ x.toInt = 0 := fun h => h0 (Int32.toInt_inj.mp (by rw [h]; rfl))
  have g1 : ¬ x.toInt = 1 := fun h => h1 (Int32.toInt_inj.mp (by rw [h]; rfl))
  have g2 : ¬ x.toInt = 2 := fun h => h2 (Int32.toInt_inj.mp (by rw [h]; rfl))
  have g3 : ¬ x.toInt = 3 := fun h => h3 (Int32.toInt_inj.mp (by rw [h]; rfl))
  have g4 : ¬ x.toInt = 4 := fun h => h4 (Int32.toInt_inj.mp (by rw [h]; rfl))
  have g5 : ¬ x.toInt = 5 := fun h => h5 (Int32.toInt_inj.mp (by rw [h]; rfl))
  have g6 : ¬ x.toInt = 6 := fun h => h6 (Int32.toInt_inj.mp (by rw [h]; rfl))
  have g7 : ¬ x.toInt = 7 := fun h => h7 (Int32.toInt_inj.mp (by rw [h]; rfl))
  have g8 : ¬ x.toInt = 8 := fun h => h8 (Int32.toInt_inj.mp (by rw [h]; rfl))
  have g9 : ¬ x.toInt = 9 := fun h => h9 (Int32.toInt_inj.mp (by rw [h]; rfl))
  have g10 : ¬ x.toInt = 10 := fun h => h10 (Int32.toInt_inj.mp (by rw [h]; rfl))
  have g11 : ¬ x.toInt = 11 := fun h => h11 (Int32.toInt_inj.mp (by rw [h]; rfl))
  omega
theorem nw_FM_9 {s : State} (h : NW s) : va_Nw (.methodLinkNest "FermionMaps" 9 ⟨"FermionMaps$Sum", "<init>", "()V"⟩ "FermionMaps") s := h ("FermionMaps", 9, ⟨"FermionMaps$Sum", "<init>", "()V"⟩, "FermionMaps") (List.mem_of_getElem? (i := 0) rfl)
theorem nw_FM_18 {s : State} (h : NW s) : va_Nw (.methodLinkNest "FermionMaps" 18 ⟨"FermionMaps$Wiring", "<init>", "()V"⟩ "FermionMaps") s := h ("FermionMaps", 18, ⟨"FermionMaps$Wiring", "<init>", "()V"⟩, "FermionMaps") (List.mem_of_getElem? (i := 1) rfl)
theorem nw_FM_25 {s : State} (h : NW s) : va_Nw (.methodLinkNest "FermionMaps" 25 ⟨"FermionMaps$Picture", "<init>", "()V"⟩ "FermionMaps") s := h ("FermionMaps", 25, ⟨"FermionMaps$Picture", "<init>", "()V"⟩, "FermionMaps") (List.mem_of_getElem? (i := 2) rfl)
theorem nw_Su_58 {s : State} (h : NW s) : va_Nw (.methodLinkNest "FermionMaps$Sum" 58 ⟨"FermionMaps", "isBeyond", "(I)Z"⟩ "FermionMaps") s := h ("FermionMaps$Sum", 58, ⟨"FermionMaps", "isBeyond", "(I)Z"⟩, "FermionMaps") (List.mem_of_getElem? (i := 3) rfl)
theorem nw_Su_43 {s : State} (h : NW s) : va_Nw (.methodLinkNest "FermionMaps$Sum" 43 ⟨"FermionMaps", "isOdd", "(I)Z"⟩ "FermionMaps") s := h ("FermionMaps$Sum", 43, ⟨"FermionMaps", "isOdd", "(I)Z"⟩, "FermionMaps") (List.mem_of_getElem? (i := 4) rfl)
theorem nw_Wi_45 {s : State} (h : NW s) : va_Nw (.methodLinkNest "FermionMaps$Wiring" 45 ⟨"FermionMaps", "has", "(II)Z"⟩ "FermionMaps") s := h ("FermionMaps$Wiring", 45, ⟨"FermionMaps", "has", "(II)Z"⟩, "FermionMaps") (List.mem_of_getElem? (i := 5) rfl)
theorem nw_Wi_49 {s : State} (h : NW s) : va_Nw (.methodLinkNest "FermionMaps$Wiring" 49 ⟨"FermionMaps", "isOdd", "(I)Z"⟩ "FermionMaps") s := h ("FermionMaps$Wiring", 49, ⟨"FermionMaps", "isOdd", "(I)Z"⟩, "FermionMaps") (List.mem_of_getElem? (i := 6) rfl)
theorem nw_Pi_102 {s : State} (h : NW s) : va_Nw (.methodLinkNest "FermionMaps$Picture" 102 ⟨"FermionMaps", "oddBelow", "(I)I"⟩ "FermionMaps") s := h ("FermionMaps$Picture", 102, ⟨"FermionMaps", "oddBelow", "(I)I"⟩, "FermionMaps") (List.mem_of_getElem? (i := 7) rfl)
theorem nw_Pi_108 {s : State} (h : NW s) : va_Nw (.methodLinkNest "FermionMaps$Picture" 108 ⟨"FermionMaps", "turnsAlways", "(II)Z"⟩ "FermionMaps") s := h ("FermionMaps$Picture", 108, ⟨"FermionMaps", "turnsAlways", "(II)Z"⟩, "FermionMaps") (List.mem_of_getElem? (i := 8) rfl)
theorem nw_Pi_112 {s : State} (h : NW s) : va_Nw (.methodLinkNest "FermionMaps$Picture" 112 ⟨"FermionMaps", "has", "(II)Z"⟩ "FermionMaps") s := h ("FermionMaps$Picture", 112, ⟨"FermionMaps", "has", "(II)Z"⟩, "FermionMaps") (List.mem_of_getElem? (i := 9) rfl)
theorem nw_Su_40 {s : State} (h : NW s) : va_Nw (.methodLinkNest "FermionMaps$Sum" 40 ⟨"FermionMaps", "oddBelow", "(I)I"⟩ "FermionMaps") s := h ("FermionMaps$Sum", 40, ⟨"FermionMaps", "oddBelow", "(I)I"⟩, "FermionMaps") (List.mem_of_getElem? (i := 10) rfl)
theorem nw_Su_47 {s : State} (h : NW s) : va_Nw (.methodLinkNest "FermionMaps$Sum" 47 ⟨"FermionMaps", "turnsAlways", "(II)Z"⟩ "FermionMaps") s := h ("FermionMaps$Sum", 47, ⟨"FermionMaps", "turnsAlways", "(II)Z"⟩, "FermionMaps") (List.mem_of_getElem? (i := 11) rfl)
