/-! contracts of throwing methods: ends, and the call with a handler -/
def ExcAt (a : Nat) (t : State) : Prop := ∃ ce : Cell, t.heap[a]? = some ce ∧ t.vm.findClass nsee = some ce.cls ∧ ce.vm = .none
def QX (w : Option Value) (B : State → Prop) (A : Nat → Prop) : Array Value → State → Outcome → State → Prop := fun _ st oc t => ((∃ v, w = some v ∧ oc = .returned (some v)) ∨ (w = none ∧ ∃ a, oc = .threw a ∧ ExcAt a t)) ∧ B t ∧ va_F A st t
def Wx (s0 : State) (D : va_G) (ws : va_W) (tys : List (ClassId × FieldType)) (sz : Nat) (U : State) : Prop := Ww D ws tys sz U ∧ TZ s0 U
theorem Wx_blind {s0 : State} {D : va_G} {ws : va_W} {tys : List (ClassId × FieldType)} {av : List Value} {sz : Nat} : FrameBlind (va_Pc av (Wx s0 D ws tys sz)) := fun a U g mk q => by
  obtain ⟨q0, hq, hz⟩ := q
  exact ⟨q0, (Ww_blind (av := av) a U g mk ⟨q0, hq⟩).2, hz⟩
def opt {α β : Type} (o : Option α) (a : β) (k : α → β) : β := match o with
  | none => a
  | some v => k v
theorem opt_n {α β : Type} {o : Option α} {a r : β} {k : α → β} (h : o = none) (hf : opt o a k = r) : a = r := by subst h; exact hf
theorem opt_s {α β : Type} {o : Option α} {a r : β} {k : α → β} {v : α} (h : o = some v) (hf : opt o a k = r) : k v = r := by subst h; exact hf
section RX
variable {p : Program} {l : Launch} {e : Env} {R : Room} {s : State} {m : MethodId} {args : Array Value} {below : List Frame} {meth : Method} {c : Code} {H : Heap} {locs : List Loc} {cells slots : Nat} {Q : State → Prop} {pc : Nat} {ls : Array Slot} {D : va_G} {tys : List (ClassId × FieldType)} {ws ws0 wc wr : va_W} {A : Nat → Prop} {cc bytes : ByteArray} {nL maxL index n : Nat} {own C host : String} {y : MethodName} {ret : Option FieldType} {rm : Room} {b : Nat} {As rest st : List Value} {mc ms : Nat} {s0 : State}
theorem rx_i {ar : Array Value} {v : Int32} {w : Option Value} {Rw : va_W → Prop} (hQ : Q = MQX below (QX w (Bw D tys A Rw ()) A) ar s mc ms A) (hw : w = some (.int v)) (hRw : Rw ws) (hP : va_P D cls ws H) (hD : va_D A ws) (hK : va_K D cls tys s) (hS : va_S A s.heap H locs) (hx : p.tables.exec = Jvm.exec) (hb : c.code = cc) (hr : meth.sig.returnType = some .int) (hlocks : meth.locks = false) (hdg : decode cc pc = .ok (.ireturn, 1)) (h1 : cells ≤ mc) (h2 : slots ≤ ms) : W p l e R s m ar below meth c H locs cells slots Q (F0 m pc ls [.int v]) := by
  subst hQ
  refine W.widen h1 h2 (W.mono (fun t ht => MQ_X ht) ?_)
  exact W.iret hx hb hr (fun t ht hW => ⟨Or.inl ⟨_, hw, rfl⟩, ⟨ws, hRw, by rw [ht]; exact hP, va_K.moved hW.alike hK, hD⟩, hS.F ht⟩) hS.2.2 hdg
theorem rx_l {ar : Array Value} {v : Int64} {w : Option Value} {Rw : va_W → Prop} (hQ : Q = MQX below (QX w (Bw D tys A Rw ()) A) ar s mc ms A) (hw : w = some (.long v)) (hRw : Rw ws) (hP : va_P D cls ws H) (hD : va_D A ws) (hK : va_K D cls tys s) (hS : va_S A s.heap H locs) (hx : p.tables.exec = Jvm.exec) (hb : c.code = cc) (hr : meth.sig.returnType = some .long) (hlocks : meth.locks = false) (hdg : decode cc pc = .ok (.lreturn, 1)) (h1 : cells ≤ mc) (h2 : slots ≤ ms) : W p l e R s m ar below meth c H locs cells slots Q (F0 m pc ls [.long v]) := by
  subst hQ
  refine W.widen h1 h2 (W.mono (fun t ht => MQ_X ht) ?_)
  exact W.lret hx hb hr (fun t ht hW => ⟨Or.inl ⟨_, hw, rfl⟩, ⟨ws, hRw, by rw [ht]; exact hP, va_K.moved hW.alike hK, hD⟩, hS.F ht⟩) hS.2.2 hdg
theorem rx_t {ar : Array Value} {w : Option Value} {Rw : va_W → Prop} {ks : Nat} {tx : String} (hQ : Q = MQX below (QX w (Bw D tys A Rw ()) A) ar s 1 6 A) (hw : w = none) (hRw : Rw ws) (hP : va_P D cls ws H) (hD : va_D A ws) (hK : va_K D cls tys s) (hS : va_S A s.heap H locs) (hA : ∀ q, s.heap.size ≤ q → A q)
    (hP0 : va_P D cls ws0 s.heap) (hAe : va_A ws0 s.heap.size = A) (hF : ThF s0) (hTZ : TZ s0 s) (htr : e.platform.stackTraces = false) (hx : p.tables.exec = Jvm.exec) (hb : c.code = cc) (hown : s.vm.findClass "FermionMaps" = some m.cls) (hex : c.exceptionTable.toList = []) (hml : c.maxLocals = nL) (hls : ls.size = nL) (hlocks : meth.locks = false)
    (hcl : (Cond.classLink "FermionMaps" 60 nsee).before ar s = true) (hin : (Cond.instantiable nsee 6).before ar s = true) (hini : (Cond.initialized nsee).before ar s = true) (hm : Cond.stringRef "FermionMaps" ks tx ∈ lw_tbl)
    (d0 : decode cc pc = .ok (.new 60, 3)) (d1 : decode cc (pc + 3) = .ok (.dup, 1)) (d2 : decode cc (pc + 3 + 1) = .ok (.ldc ks, 2)) (d3 : decode cc (pc + 3 + 1 + 2) = .ok (.invokespecial 64, 3)) (d4 : decode cc (pc + 3 + 1 + 2 + 3) = .ok (.athrow, 1))
    (hc1 : 1 ≤ R.cells) (hs6 : 6 ≤ R.slots) (hRf : 5 < R.frames) (hRl : 82 ≤ R.locals) : W p l e R s m ar below meth c H locs 0 0 Q (F0 m pc ls []) := by
  subst hQ
  obtain ⟨qs, hqs⟩ := str_at hF hTZ hm
  refine W.newc hx hb hown hcl hin hini rfl d0 (by omega) (by omega) (fun cC kC h1 h2 h3 h4 => ?_)
  refine W.eq (g2 := F0 m (pc + 3) ls [.ref H.size]) rfl ?_
  refine lv_dup hx hb d1 rfl ?_
  refine va_ldcS hx hb hown hqs d2 ?_
  intro T hT X
  have hcellT : T.heap[H.size]? = some (freshCell cC kC) := by rw [hT]; exact (Array.getElem?_push_size).trans rfl
  obtain ⟨U, hst, hrun, hend, hW, hsame, hkeep, ce, hce, hcc, hcv⟩ := thrS (own := "FermionMaps") (ki := 64) X hx htr hown (thr_at hF hTZ ar) (locs_ok hK hP0 hAe hS) h1 h2 hcellT (hS.1) (msg := .ref qs) rfl (g := F0 m (pc + 3 + 1 + 2) ls [.ref qs, .ref H.size, .ref H.size]) rfl (hls.trans hml.symm) rfl rfl rfl (by rw [hb]; exact d3) (by rw [hb]; exact d4) (by rw [hex]; intro x hx9; cases hx9) hRf (by simpa [JFrame.monitorRoom] using hRl) hlocks
  have hUH : ∀ q, q < H.size → U.heap[q]? = H[q]? := fun q hq => by
    rw [hkeep q (Nat.ne_of_lt hq), hT, Array.getElem?_push, if_neg (Nat.ne_of_lt hq)]
  have hUs : H.size < U.heap.size := (Array.getElem?_eq_some_iff.mp hce).1
  refine ⟨U, hst, .threw H.size, hrun, hend, ⟨Or.inr ⟨hw, H.size, rfl, ce, hce, by rw [hW.alike.findClass, hcc]; exact h1, hcv⟩, ⟨ws, hRw, hP.kept (fun k x hk => hUH x.1 ((hP k x hk).lt)), va_K.moved hW.alike hK, hD⟩, ⟨Nat.le_trans hS.1 (Nat.le_of_lt hUs), fun q h9 h8 => (hUH q (Nat.lt_of_lt_of_le h9 hS.1)).trans (hS.2.1 q h9 h8)⟩⟩, locs, ⟨hW, ?_⟩, hS.2.2⟩
  have e1 : 0 + 1 = 1 := rfl
  have e6 : 0 + 6 = 6 := rfl
  exact hsame
end RX
