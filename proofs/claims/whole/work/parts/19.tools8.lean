section LAW
variable {p : Program} {l : Launch} {e : Env} {R : Room} {s : State} {m : MethodId} {args : Array Value} {below : List Frame} {meth : Method} {c : Code} {H : Heap} {locs : List Loc} {cells slots : Nat} {Q : State → Prop} {pc : Nat} {ls : Array Slot} {D : va_G} {tys : List (ClassId × FieldType)} {ws ws0 wc wr : va_W} {A : Nat → Prop} {cc bytes : ByteArray} {nL maxL index n : Nat} {own C host : String} {y : MethodName} {ret : Option FieldType} {rm : Room} {b : Nat} {As rest st : List Value} {mc ms : Nat} {s0 : State}
theorem wr_ic {a : Array Value} {v : Int32} {Rw : va_W → Prop} (hr : va_Run p l e R s m args below meth c H locs cells slots mc ms (F0 m pc ls st) rest (va_Qi (fun r (_ : Unit) => r = v) (Bw D tys (va_A wc H.size) Rw) (va_A wc H.size) a) (va_A wc H.size)) (hP : va_P D cls ws H) (hD : va_D A ws) (hS : va_S A s.heap H locs) (hA : ∀ q, s.heap.size ≤ q → A q) (isC isR : List Nat) (hC : isC.map (fun i => ws[i]?) = wc.map some) (hR : isR.map (fun i => ws[i]?) = wr.map some) (hn : va_nd isR = true) (hdis : ∀ i ∈ isR, i ∉ isC)
    (kk : ∀ (w1 : va_W) (H1 : Heap) (locs1 : List Loc), Rw w1 → va_P D cls (wr ++ w1) H1 → va_D A (wr ++ w1) → va_S A s.heap H1 locs1 → W p l e R s m args below meth c H1 locs1 (cells + mc) (slots + ms) Q (F0 m (pc + 3) ls (.int v :: rest))) : W p l e R s m args below meth c H locs cells slots Q (F0 m pc ls st) := by
  have hF := va_free (wc := wc) hD hS hA isC hC
  refine va_calli hr hS (fun q _ h => hF q h) hF (fun r u t H1 locs1 ht hvm hv hB hz1 hk1 hS1 => ?_)
  obtain ⟨w1, hRw, hP1, hK1, hD1⟩ := hB
  rw [ht] at hP1
  obtain ⟨hP2, hD2⟩ := va_join hP hD isC isR hC hR hn hdis hk1 hF hP1 hD1
  rw [hv]
  exact kk w1 H1 locs1 hRw hP2 hD2 hS1
/-- the law's call of one of its helpers -/
theorem swS_run {hh : List (Nat × Nat × Nat × Nat)} (S : CallFix p m c cc nL s args T0 own) {Qc : Array Value → State → Outcome → State → Prop} {free : Addr → Prop} (hM : Met l y (Cond.codeWith y bytes maxL ret hh :: T0) rm (va_Pc As (Wx s D wc tys H.size)) Qc mc ms free)
    (hl : Cond.methodLink own index y ∈ T0) (hstat : Cond.static y ∈ T0) (hini : Cond.initialized y.cls ∈ T0) (hG : Cond.codeWith y bytes maxL ret hh ∈ T0) (hrc : rm.cells = mc) (hrs : rm.slots = ms)
    (hd : y.cls ≠ "java/lang/invoke/MethodHandle" ∧ y.cls ≠ "java/lang/invoke/VarHandle" ∧ (parseMethodDescriptor y.desc).map (fun d => d.parameters.length) = some n) (hR : rm.frames + 1 ≤ R.frames ∧ 8 + (maxL + 11) + rm.locals ≤ R.locals)
    (hK : va_K D cls tys s) (hNW : NW s) (hP : va_P D cls ws H) (hD : va_D A ws) (hS : va_S (fun q : Nat => s.heap.size ≤ q) s.heap H locs) (is : List Nat) (hs : is.filterMap (fun i => ws[i]?) = wc) (hC : is.map (fun i => ws[i]?) = wc.map some) (hnd : va_nd is = true)
    (hn : As.length = n) (hsize : ls.size = nL) (hst : st = As.reverse ++ rest) (hW : (rest.map fun v => v.category).sum ≤ 8) (hdg : decode cc pc = .ok (.invokestatic index, 3)) (hf : cells + mc ≤ R.cells ∧ slots + ms ≤ R.slots) :
    va_Run p l e R s m args below meth c H locs cells slots mc ms (F0 m pc ls st) rest (Qc As.toArray) free :=
  runSW S hM (S.2.2.2.2 _ hl) (S.2.2.2.2 _ hstat) (S.2.2.2.2 _ hini) hG hrc hrs hd hR ⟨Wx_blind, fun U hU hW => ⟨rfl, ⟨by rw [hU], by rw [hU]; exact hP.sub is hs, va_K.moved hW.alike hK, (hD.sub is hnd hC).weaken (fun _ _ _ _ => trivial), NW.warm hW hNW⟩, ⟨hW, fun q hq => by rw [hU]; exact hS.2.1 q hq (Nat.not_le.mpr hq)⟩⟩⟩ hn hsize hst hW hdg hf
theorem arr_known {ty : FieldType} (hn : ∀ C, ty ≠ .object C) (h : (Cond.arrayClass ty).before args s = true) : ∃ cA, ArrOfT s cA ty ∧ va_RA s cA ty := by
  cases hc : s.vm.findClass ("[" ++ ty.toString) with
  | none => simp [Cond.before, Cond.holds, Cond.value, hc] at h
  | some cA =>
    cases hk : s.vm.classes[cA]? with
    | none => simp [Cond.before, Cond.holds, Cond.value, hc, hk] at h
    | some k =>
      simp only [Cond.before, Cond.holds, Cond.value, hc, hk, Option.bind_some, Option.map_some] at h
      cases hkk : k.kind with
      | array comp t =>
        simp [hkk] at h
        subst h
        refine ⟨cA, fun n z => ⟨fun j hj => (by cases hj), k, hk, comp, hkk⟩, ?_⟩
        cases t with
        | object C => exact absurd rfl (hn C)
        | _ => exact hc
      | _ => simp [hkk] at h
end LAW
