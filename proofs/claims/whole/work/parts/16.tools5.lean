/-! what the throw rests on, carried from the law's start to every later state -/
def TZ (s0 U : State) : Prop := s0.WarmedH U.vm ∧ ∀ q, q < s0.heap.size → U.heap[q]? = s0.heap[q]?
def ThF (s0 : State) : Prop := ∃ a0 : Array Value, (∀ w ∈ lw_tbl, w.before a0 s0 = true) ∧ (Cond.isRef (.static Bundle.tN "UNASSIGNED_STACK" Bundle.steD)).before a0 s0 = true ∧ (Cond.isRef (.static Bundle.tN "SUPPRESSED_SENTINEL" Bundle.listD)).before a0 s0 = true
theorem ls_heap {V U : State} (hv : U.vm = V.vm) (hh : ∀ q, q < V.heap.size → U.heap[q]? = V.heap[q]?) {o n d : String} {A A' : Array Value} (h : (Cond.laysStatic o n d).before A V = true) : (Cond.laysStatic o n d).before A' U = true := by
  obtain ⟨c, k, i, f, a, cell, h1, h2, h3, h4, h5, h6, h7, h8, h9⟩ := Cond.laysStatic_spec h
  have hf : U.fieldFound? o n d = some (c, k, i, f) := by rw [← h2]; simp only [State.fieldFound?, hv]
  have hc : U.heap[a]? = some cell := by rw [hh a (Array.getElem?_eq_some_iff.mp h5).1]; exact h5
  simp [Cond.before, Cond.holds, Cond.value, hv, h1, hf, h4, hc, h3, h6, h7, h8, h9]
theorem ir_heap {V U : State} (hv : U.vm = V.vm) (hh : ∀ q, q < V.heap.size → U.heap[q]? = V.heap[q]?) {o n d : String} {A A' : Array Value} (hl : (Cond.laysStatic o n d).before A V = true) (h : (Cond.isRef (.static o n d)).before A V = true) : (Cond.isRef (.static o n d)).before A' U = true := by
  obtain ⟨c, k, i, f, a, cell, h1, h2, h3, h4, h5, h6, h7, h8, h9⟩ := Cond.laysStatic_spec hl
  have hf : U.fieldFound? o n d = some (c, k, i, f) := by rw [← h2]; simp only [State.fieldFound?, hv]
  have hc : U.heap[a]? = some cell := by rw [hh a (Array.getElem?_eq_some_iff.mp h5).1]; exact h5
  have e : (Term.static o n d).eval A' U none [] U = (Term.static o n d).eval A V none [] V := by
    simp [Term.eval, State.fieldNamed?, hf, h2, h3, h4, hc, h5]
  simp only [Cond.before, Cond.holds, Cond.value] at h ⊢
  rw [e]
  exact h
def isDecl : Cond → Bool
  | .declares _ => true
  | _ => false
def isLS : Cond → Bool
  | .laysStatic .. => true
  | _ => false
def ir1 : Cond := .isRef (.static Bundle.tN "UNASSIGNED_STACK" Bundle.steD)
def ir2 : Cond := .isRef (.static Bundle.tN "SUPPRESSED_SENTINEL" Bundle.listD)
set_option maxRecDepth 20000 in
theorem thr_kinds : (thrAtoms "FermionMaps" 64).all (fun a => (decide (a ∈ lw_tbl) && (goodWord a || isDecl a || isLS a)) || decide (a = ir1) || decide (a = ir2)) = true := by decide +kernel
theorem ls1_in : Cond.laysStatic Bundle.tN "UNASSIGNED_STACK" Bundle.steD ∈ lw_tbl := by decide +kernel
theorem ls2_in : Cond.laysStatic Bundle.tN "SUPPRESSED_SENTINEL" Bundle.listD ∈ lw_tbl := by decide +kernel
theorem thr_at {s0 U : State} (hF : ThF s0) (hZ : TZ s0 U) (args : Array Value) : ∀ a ∈ thrAtoms "FermionMaps" 64, a.before args U = true := by
  intro a ha
  obtain ⟨a0, hw, hi1, hi2⟩ := hF
  have hk := List.all_eq_true.mp thr_kinds a ha
  have hls : ∀ o n d, Cond.laysStatic o n d ∈ lw_tbl → (Cond.laysStatic o n d).before a0 (s0.setVm U.vm) = true := fun o n d hm =>
    Cond.holds_shifted (State.Shifted.of_warmed hZ.1) _ [] rfl (hw _ hm)
  have hir : ∀ o n d, (Cond.isRef (.static o n d)).before a0 s0 = true → (Cond.isRef (.static o n d)).before a0 (s0.setVm U.vm) = true := fun o n d hm =>
    Cond.holds_shifted (State.Shifted.of_warmed hZ.1) _ [] rfl hm
  simp only [Bool.or_eq_true, Bool.and_eq_true, decide_eq_true_eq] at hk
  rcases hk with (⟨hm, (hg | hd) | hl⟩ | rfl) | rfl
  · exact word_at hZ.1 (good_of_word hg) (hw a hm)
  · cases a with
    | declares x => exact va_Nw.use rfl (va_Nw.warmD hZ.1 (va_Nw.of rfl (hw _ hm)))
    | _ => cases hd
  · cases a with
    | laysStatic o n d => exact ls_heap (V := s0.setVm U.vm) (U := U) rfl hZ.2 (hls o n d hm)
    | _ => cases hl
  · exact ir_heap (V := s0.setVm U.vm) (U := U) rfl hZ.2 (hls _ _ _ ls1_in) (hir _ _ _ hi1)
  · exact ir_heap (V := s0.setVm U.vm) (U := U) rfl hZ.2 (hls _ _ _ ls2_in) (hir _ _ _ hi2)
theorem str_at {s0 U : State} (hF : ThF s0) (hZ : TZ s0 U) {k : Nat} {tx : String} (hm : Cond.stringRef "FermionMaps" k tx ∈ lw_tbl) : ∃ q, vk_R "FermionMaps" k tx q U := by
  obtain ⟨a0, hw, -, -⟩ := hF
  have h := hw _ hm
  have hini := hw (.initialized "FermionMaps") (by decide +kernel)
  cases hc : s0.vm.findClass "FermionMaps" with
  | none => simp [Cond.before, Cond.holds, Cond.value, hc] at h
  | some cur =>
    obtain ⟨k1, cf, i, a, h1, h2, h3, h4, h5, hev⟩ := Cond.stringRef_spec hc h
    have h6 : vk_R "FermionMaps" k tx a s0 := by
      refine vk_R.of (A := #[]) ?_ ?_
      · simpa [Cond.before, Cond.holds, Cond.value] using h
      · simpa [Term.eval] using hev
    exact ⟨a, vk_R.warm hZ.1 h6⟩
theorem TZ.self {s U : State} (hW : s.WarmedH U.vm) (hh : U.heap = s.heap) : TZ s U := ⟨hW, fun q _ => by rw [hh]⟩
theorem TZ.trans {s0 s U : State} (h : TZ s0 s) (hW : s.WarmedH U.vm) (hh : ∀ q, q < s0.heap.size → U.heap[q]? = s.heap[q]?) : TZ s0 U := ⟨State.WarmedH.trans h.1 hW, fun q hq => (hh q hq).trans (h.2 q hq)⟩
/-- cells of the world aren't statics -/
theorem ws_nostat {D : va_G} {tys : List (ClassId × FieldType)} {ws : va_W} {s : State} {H : Heap} (hK : va_K D cls tys s) (hP : va_P D cls ws H) {q : Nat} {e : va_E} {k : Nat} (hk : ws[k]? = some (q, e)) {cell : Cell} (hc : H[q]? = some cell) : cell.vm.isStatics = false := by
  rcases e with ⟨cA, x⟩ | ⟨ci, fs⟩
  · have h : H[q]? = some (vp_cell cA x) := hP k _ hk
    cases hc.symm.trans h
    obtain ⟨n, f⟩ := x
    rcases f with f | f | f | f | f <;> rfl
  · obtain ⟨r, hr, h2⟩ := hP k _ hk
    obtain ⟨cell', h3, h4, -⟩ := va_recv (q := r) hK hP hr hk
    cases hc.symm.trans h3
    exact h4
theorem locs_ok {D : va_G} {tys : List (ClassId × FieldType)} {ws : va_W} {s : State} {H : Heap} {locs : List Loc} {A : Nat → Prop} (hK : va_K D cls tys s) (hP0 : va_P D cls ws s.heap) (hAe : va_A ws s.heap.size = A) (hS : va_S A s.heap H locs) : ∀ x ∈ locs, ∀ cell, s.heap[x.base]? = some cell → cell.vm.isStatics = false := by
  intro x hx cell hc
  have h := hS.2.2 x hx
  rw [← hAe] at h
  rcases h with ⟨k, e, hk⟩ | h
  · exact ws_nostat hK hP0 hk hc
  · exact absurd (Array.getElem?_eq_some_iff.mp hc).1 (Nat.not_lt.mpr h)
