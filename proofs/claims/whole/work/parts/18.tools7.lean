section CXV
variable {p : Program} {l : Launch} {e : Env} {R : Room} {s : State} {m : MethodId} {args : Array Value} {below : List Frame} {meth : Method} {c : Code} {H : Heap} {locs : List Loc} {cells slots : Nat} {Q : State → Prop} {pc : Nat} {ls : Array Slot} {D : va_G} {tys : List (ClassId × FieldType)} {ws ws0 wc wr : va_W} {A : Nat → Prop} {cc bytes : ByteArray} {nL maxL index n : Nat} {own C host : String} {y : MethodName} {ret : Option FieldType} {rm : Room} {b : Nat} {As rest st : List Value} {mc ms : Nat} {s0 : State}
theorem asg_self {vm : Vm} {k : ClassId} : vm.assignable k k = true := by
  show vm.assignableAux (255 + 1) k k = true
  rw [Vm.assignableAux, Bool.or_eq_true, beq_iff_eq]
  exact Or.inl rfl
theorem cxV {w : Option Value} {Rw : va_W → Prop} (S : CallFix p m c cc nL s args T0 own) (hM : MetX l y (Cond.code y bytes maxL ret :: T0) rm (va_Pc (.ref b :: As) (Wx s0 D wc tys H.size)) (QX w (Bw D tys (va_A wc H.size) Rw ()) (va_A wc H.size)) mc ms (va_A wc H.size))
    (cw : CallW R s args own C index y bytes maxL ret (Cond.code y bytes maxL ret :: T0) rm mc ms n) (hK : va_K D cls tys s) (hNW : NW s) (hTZ : TZ s0 s) (hZH : ∀ q, q < s0.heap.size → H[q]? = s.heap[q]?) (hP : va_P D cls ws H) (hD : va_D A ws) (hS : va_S A s.heap H locs) (hA : ∀ q, s.heap.size ≤ q → A q)
    (isC isR : List Nat) (hs : isC.filterMap (fun i => ws[i]?) = wc) (hC : isC.map (fun i => ws[i]?) = wc.map some) (hR : isR.map (fun i => ws[i]?) = wr.map some) (hnd : va_nd isC = true) (hndR : va_nd isR = true) (hdis : ∀ i ∈ isR, i ∉ isC)
    {ci q0 N : Nat} {TT : u_T} {fs : List Value} (hc : cls[ci]? = some (C, TT, N)) (he : ws[q0]? = some (b, .inr (ci, fs))) (hn : As.length = n) (hsize : ls.size = nL) (hst : st = As.reverse ++ .ref b :: rest) (hW : (rest.map fun v => v.category).sum ≤ 8) (hdg : decode cc pc = .ok (.invokevirtual index, 3)) (hcs : cells + mc ≤ R.cells ∧ slots + ms ≤ R.slots)
    {x : ExceptionTableEntry} (hone : c.exceptionTable.toList = [x]) (hcov : covers x pc = true) {k hp : Nat} (hct : x.catchType = k) (hk0 : k ≠ 0) (hhp : x.handlerPc = hp) (hlink : (Cond.classLink own k nsee).before args s = true)
    (kr : ∀ v, w = some v → ∀ (w1 : va_W) (H1 : Heap) (locs1 : List Loc), Rw w1 → va_P D cls (wr ++ w1) H1 → va_D A (wr ++ w1) → va_S A s.heap H1 locs1 → W p l e R s m args below meth c H1 locs1 (cells + mc) (slots + ms) Q (F0 m (pc + 3) ls (v :: rest)))
    (kt : ∀ a, w = none → ∀ (w1 : va_W) (H1 : Heap) (locs1 : List Loc), Rw w1 → va_P D cls (wr ++ w1) H1 → va_D A (wr ++ w1) → va_S A s.heap H1 locs1 → W p l e R s m args below meth c H1 locs1 (cells + mc) (slots + ms) Q (F0 m hp ls [.ref a])) :
    W p l e R s m args below meth c H locs cells slots Q (F0 m pc ls st) := by
  intro T hT X
  obtain ⟨hx, hb, hml, hown, hts⟩ := S
  obtain ⟨cellB, hcB, hoB, hclB⟩ := va_recv hK hP hc he
  have hF := va_free (wc := wc) hD hS hA isC hC
  obtain ⟨o, st₀, t, T', L, h0, X', hL, e1, e2, ⟨hcase, ⟨w1, hRw, hP1, hK1, hD1⟩, hz, hk⟩, hgo⟩ := callVX X hx hown cw hM Wx_blind (by rw [hT]; exact hcB) hoB hclB (g := F0 m pc ls st) rfl (hsize.trans hml.symm) hn hst (lv_room hW) (by rw [hb]; exact hdg) hcs
    (fun U hU hW => ⟨rfl, ⟨by rw [hU, hT], by rw [hU, hT]; exact hP.sub isC hs, va_K.moved hW.alike hK, (hD.sub isC hnd hC).weaken (fun _ _ _ _ => trivial), NW.warm hW hNW⟩, TZ.trans hTZ hW (fun q hq => by rw [hU, hT]; exact hZH q hq)⟩)
  rw [h0, hT] at hz hk
  have hP1' : va_P D cls w1 T'.heap := by rw [e1]; exact hP1
  have hk' : ∀ q : Nat, q < H.size → ¬ va_A wc H.size q → T'.heap[q]? = H[q]? := fun q h1 h2 => by rw [e1]; exact hk q h1 h2
  obtain ⟨hP2, hD2⟩ := va_join hP hD isC isR hC hR hndR hdis hk' hF hP1' hD1
  have hS1 : va_S A s.heap T'.heap (locs ++ L) := ⟨Nat.le_trans hS.1 (by rw [e1]; exact hz), fun q h1 h2 => by rw [hk' q (Nat.lt_of_lt_of_le h1 hS.1) (fun z => h2 (hF q z))]; exact hS.2.1 q h1 h2, fun q hq => by
    rcases List.mem_append.mp hq with h | h
    · exact hS.2.2 q h
    · exact hF _ (hL q h)⟩
  rcases hgo with ⟨v, rfl, hstep⟩ | ⟨a, rfl, hstep⟩
  · rcases hcase with ⟨v', hv', ho⟩ | ⟨_, a', ho, _⟩
    · cases ho
      obtain ⟨t2, a1, b1⟩ := kr v' hv' w1 T'.heap (locs ++ L) hRw hP2 hD2 hS1 T' rfl X'
      exact ⟨t2, hstep t2 a1, b1⟩
    · cases ho
  · rcases hcase with ⟨v', hv', ho⟩ | ⟨hw, a', ho, ce, hce, hcl, hcv⟩
    · cases ho
    · cases ho
      have hal : s.vm.Alike T'.vm := X'.warmed.alike
      have hcl' : s.vm.findClass nsee = some ce.cls := by rw [← hal.findClass, e2]; exact hcl
      subst hct
      obtain ⟨vm', X'', hW'', hst2⟩ := caughtOne X' a (g := F0 m pc ls rest) rfl hown hone hcov hk0 hlink (cT := ce.cls) (cell := ce) hcl' (by rw [e1]; exact hce) (by rw [hcv]; rfl) asg_self
      subst hhp
      obtain ⟨t2, a1, b1⟩ := kt a hw w1 T'.heap (locs ++ L) hRw hP2 hD2 hS1 (T'.setVm vm') rfl X''
      exact ⟨t2, hstep t2 (hst2 t2 a1), b1⟩
/-- the call of a static method with handlers of its own -/
theorem runSW {hh : List (Nat × Nat × Nat × Nat)} (S : CallFix p m c cc nL s args T0 own) {Pc : Array Value → State → Prop} {Qc : Array Value → State → Outcome → State → Prop} {free : Addr → Prop} (hM : Met l y (Cond.codeWith y bytes maxL ret hh :: T0) rm Pc Qc mc ms free)
    (hl : (Cond.methodLink own index y).before args s = true) (hstat : (Cond.static y).before args s = true) (hini : (Cond.initialized y.cls).before args s = true) (hG : Cond.codeWith y bytes maxL ret hh ∈ T0) (hrc : rm.cells = mc) (hrs : rm.slots = ms)
    (hd : y.cls ≠ "java/lang/invoke/MethodHandle" ∧ y.cls ≠ "java/lang/invoke/VarHandle" ∧ (parseMethodDescriptor y.desc).map (fun d => d.parameters.length) = some n) (hR : rm.frames + 1 ≤ R.frames ∧ 8 + (maxL + 11) + rm.locals ≤ R.locals) (hp : PreS s H Pc As)
    (hn : As.length = n) (hsize : ls.size = nL) (hst : st = As.reverse ++ rest) (hW : (rest.map fun v => v.category).sum ≤ 8) (hdg : decode cc pc = .ok (.invokestatic index, 3)) (hf : cells + mc ≤ R.cells ∧ slots + ms ≤ R.slots) :
    va_Run p l e R s m args below meth c H locs cells slots mc ms (F0 m pc ls st) rest (Qc As.toArray) free := by
  obtain ⟨hx, hb, hml, ho, hts⟩ := S
  have hK : Back l R p e below s args y 3 8 (PreOf R mc ms Pc) (PostOf Qc mc ms free) := va_backW (hh := hh) (bytes := bytes) (maxL := maxL) (ret := ret) hM hp.1 hrc hrs hR.1 hR.2 (pay_in hts (gC hG)) List.mem_cons_self (fun a' U hW => word_at hW (Or.inl (by first | rfl | simp [Cond.onTables, Cond.keeps, Cond.steady])) hini)
  intro T hT X
  obtain ⟨mk, methM, cM, hnamed, hmethM, -, -, -, -, -, -, hsigM⟩ := Cond.codeWith_spec (hts _ hG)
  have hstatic : methM.isStatic = true := Cond.static_spec hnamed hmethM hstat
  obtain ⟨kP, hkP, -⟩ := className_of_methodNamed hnamed
  have hinitP : kP.init = .initialized := Cond.initialized_spec (findClass_of_methodNamed hnamed) hkP hini
  have hlen : As.length = methM.sig.parameters.length := by
    have h2 := hd.2.2
    rw [hsigM] at h2
    exact hn.trans (Option.some.inj h2).symm
  obtain ⟨vm₁, X₁, hstep₁⟩ := X.invokestatic hx ho hl hnamed hmethM hstatic hkP hinitP ⟨hd.1, hd.2.1⟩ (g := F0 m pc ls st) rfl (argsL := As) (rest := rest) hlen hst (by rw [hb]; exact hdg)
  obtain ⟨v, ⟨U', l2, c2, s2⟩, X', ⟨g', mk', t, L, e1, e2, hq, h1, hL, h2, h3⟩, hsteps⟩ := hK m meth c ⟨T.setVm vm₁, locs, cells, slots⟩ (F0 m pc ls rest) (.invokestatic index) mk As.toArray X₁ rfl (hsize.trans hml.symm) (by rw [hb]; exact hdg) (lv_room hW) (X₁.named hnamed) ⟨hf.1, hf.2, hp.2 (T.setVm vm₁) hT X₁.warmed⟩
  dsimp only [Pt.U, Pt.locs, Pt.cells, Pt.slots] at X' e1 e2 h1 h2 h3 hsteps
  subst h1; subst h2; subst h3
  exact ⟨v, (T.setVm vm₁).calling g' mk' As.toArray, t, U', L, hT, X', hL, e1, e2, hq, fun target h => hstep₁ _ fun acts => by rw [doInvoke_state]; exact hsteps.trans h⟩
end CXV
theorem mapS {α β : Type} {o : Option α} {f : α → β} {w : β} (h : o.map f = some w) : ∃ v, o = some v ∧ w = f v := by
  cases o with
  | none => cases h
  | some v => exact ⟨v, rfl, (Option.some.inj h).symm⟩
theorem mapN {α β : Type} {o : Option α} {f : α → β} (h : o.map f = none) : o = none := by
  cases o with
  | none => rfl
  | some v => cases h
theorem one_handler {p : Program} {l : Launch} {y : MethodName} {ws : List Cond} {rm : Room} {cc : ByteArray} {maxL : Nat} {ret : Option FieldType} {e : Env} {s : State} {m : MethodId} {args : Array Value} {below : List Frame} {meth : Method} {c : Code} {s₁ : State}
    (B : BodyLoose p l y (headSpec ws rm) cc maxL ret e s m args below meth c s₁) {i1 i2 i3 i4 : Nat} (hw : Cond.codeWith y cc maxL ret [(i1, i2, i3, i4)] ∈ ws) :
    ∃ x, c.exceptionTable.toList = [x] ∧ x.startPc = i1 ∧ x.endPc = i2 ∧ x.handlerPc = i3 ∧ x.catchType = i4 := by
  obtain ⟨m9, meth9, c9, hn9, h1, h2, -, -, htab, -, -, -⟩ := Cond.codeWith_spec (atoms_spec (ws := ws) B.pre _ hw)
  cases hn9.symm.trans B.named
  cases h1.symm.trans B.method
  cases h2.symm.trans (Stand.of_body B).code
  cases ht : c.exceptionTable.toList with
  | nil => rw [ht] at htab; cases htab
  | cons x r =>
    rw [ht] at htab
    simp only [List.map_cons, List.cons.injEq, Prod.mk.injEq, List.map_eq_nil_iff] at htab
    obtain ⟨⟨q1, q2, q3, q4⟩, rfl⟩ := htab
    exact ⟨x, rfl, q1, q2, q3, q4⟩
