/-! 'new int[2][60]', the one array of arrays of the class: three cells come, no old one changes -/
def mnI (c : ClassId) : Cell := { cls := c, slots := Array.replicate 60 (.int 0) }
def mnO (c : ClassId) : Cell := { cls := c, slots := Array.replicate 2 .null }
def mnO1 (c : ClassId) (h : Nat) : Cell := (mnO c).setSlot 0 (.ref (h + 1))
def mnO2 (c : ClassId) (h : Nat) : Cell := (mnO1 c h).setSlot 1 (.ref (h + 2))
def mn2 (u : State) (c d : ClassId) : State := ((u.pushCell (mnO c)).pushCell (mnI d)).setCell u.heap.size (mnO1 c u.heap.size)
def mn4 (u : State) (c d : ClassId) : State := ((mn2 u c d).pushCell (mnI d)).setCell u.heap.size (mnO2 c u.heap.size)
theorem mn2_size (u : State) (c d : ClassId) : (mn2 u c d).heap.size = u.heap.size + 2 := by simp [mn2, State.setCell]
theorem mn4_size (u : State) (c d : ClassId) : (mn4 u c d).heap.size = u.heap.size + 3 := by
  have h := mn2_size u c d
  simp [mn4, State.setCell, h]
theorem mn2_at (u : State) (c d : ClassId) : (mn2 u c d).heap[u.heap.size]? = some (mnO1 c u.heap.size) := by
  refine State.heap_setCell_self (c := mnO c) ?_
  have h1 : u.heap.size < (u.pushCell (mnO c)).heap.size := by simp
  rw [State.heap_pushCell_of_lt (h := h1)]
  exact State.heap_pushCell_size _ _
theorem mn2_old (u : State) (c d : ClassId) {x : Nat} (hx : x < u.heap.size) : (mn2 u c d).heap[x]? = u.heap[x]? := by
  unfold mn2
  have h1 : x < (u.pushCell (mnO c)).heap.size := by simp; omega
  rw [State.heap_setCell_other (Nat.ne_of_gt hx), State.heap_pushCell_of_lt (h := h1), State.heap_pushCell_of_lt (h := hx)]
theorem mn4_old (u : State) (c d : ClassId) {x : Nat} (hx : x < u.heap.size) : (mn4 u c d).heap[x]? = u.heap[x]? := by
  unfold mn4
  have h := mn2_size u c d
  have h1 : x < (mn2 u c d).heap.size := by omega
  rw [State.heap_setCell_other (Nat.ne_of_gt hx), State.heap_pushCell_of_lt (h := h1), mn2_old u c d hx]
theorem mn4_setTop (u : State) (f : JFrame) (c d : ClassId) : mn4 (u.setTop f) c d = (mn4 u c d).setTop f := by
  simp only [mn4, mn2, State.heap_setTop, State.pushCell_setTop, State.setCell_setTop]
section MNW
variable {E : CtlPost} {e : Env} {d : Bool} {acts : List Action} {s : State}
theorem mn_make {c comp cc : ClassId} {k kc : Class} (hk : s.vm.classes[c]? = some k) (hkind : k.kind = .array comp (.array .int)) (hkc : s.vm.classes[comp]? = some kc) (hkindc : kc.kind = .array cc .int)
    (hl : ¬ 60 > e.platform.arrayLengthLimit) (hh : ¬ 240 > e.platform.maxHeapBytes) (hc : s.heap.size + 3 ≤ e.platform.maxCells) (hs : s.slotsUsed + 122 ≤ e.platform.maxSlots) {Q : Addr → Pre}
    (hq : ∀ d' acts', Q s.heap.size d' acts' (mn4 s c comp)) : wp (multianewarray.make c [2, 60]) Q E e d acts s := by
  have h2 : ¬ (2 : Int32) < 0 := by decide
  have h60 : ¬ (60 : Int32) < 0 := by decide
  have n2 : (2 : Int32).toNatClampNeg = 2 := by decide
  have n60 : (60 : Int32).toNatClampNeg = 60 := by decide
  have inner : ∀ (u : State) (d' : Bool) (acts' : List Action) (Q' : Addr → Pre), u.vm = s.vm → u.heap.size < e.platform.maxCells → u.slotsUsed + 60 ≤ e.platform.maxSlots → (∀ acts'', Q' u.heap.size d' acts'' (u.pushCell (mnI comp))) → wp (multianewarray.make comp [60]) Q' E e d' acts' u := by
    intro u d' acts' Q' hv h1 h3 hq'
    rw [multianewarray.make]
    simp only [wp_bind', W.ite, h60, if_false, wp_pure', W.theClass, hv, hkc, hkindc, Option.some.injEq, exists_eq_left', n60]
    exact W.newArray_of (by rw [hv]; exact hkc) hkindc hl hh h1 h3 rfl hq'
  rw [multianewarray.make]
  simp only [wp_bind', W.ite, h2, if_false, wp_pure', W.theClass, hk, hkind, Option.some.injEq, exists_eq_left', n2]
  refine W.newArray_of hk hkind (by omega) (by show ¬ 2 * 4 > _; omega) (by omega) (by omega) rfl (fun acts1 => ?_)
  rw [if_neg (by decide)]
  rw [wp_bind', Std.Legacy.Range.forIn_eq_forIn_range']
  show wp (forIn [0, 1] PUnit.unit _) _ E e d acts1 _
  simp only [List.forIn_cons, List.forIn_nil, wp_bind', wp_pure']
  have sz1 : (s.pushCell (mnO c)).heap.size = s.heap.size + 1 := by simp
  have us1 : (s.pushCell (mnO c)).slotsUsed = s.slotsUsed + 2 := by simp [mnO]
  refine inner _ _ _ _ rfl (by show (s.pushCell (mnO c)).heap.size < _; omega) (by show (s.pushCell (mnO c)).slotsUsed + 60 ≤ _; omega) (fun acts2 => ?_)
  refine ⟨mnO c, ?_, by simp [mnO], by simp [mnO], ?_, ?_⟩
  · show ((s.pushCell (mnO c)).pushCell (mnI comp)).heap[s.heap.size]? = _
    have h9 : s.heap.size < (s.pushCell (mnO c)).heap.size := by simp
    rw [State.heap_pushCell_of_lt (h := h9)]
    exact State.heap_pushCell_size _ _
  · simp [State.fitsSlot, State.slotType?, mnO, hk, hkind, fits]
  have e1 : ((s.pushCell (mnO c)).pushCell (mnI comp)).setCell s.heap.size ((mnO c).setSlot 0 (.ref (s.pushCell (mnO c)).heap.size)) = mn2 s c comp := by rw [sz1]; rfl
  have sz2 := mn2_size s c comp
  have us2 : (mn2 s c comp).slotsUsed = s.slotsUsed + 62 := by simp [mn2, mnO, mnI]
  generalize hst : State.setCell _ _ _ = st
  obtain rfl : st = mn2 s c comp := by rw [← hst]; exact e1
  simp only [wp_bind, wp_pure, wp_bind', wp_pure']
  refine inner (mn2 s c comp) _ _ _ rfl (by show (mn2 s c comp).heap.size < _; omega) (by show (mn2 s c comp).slotsUsed + 60 ≤ _; omega) (fun acts3 => ?_)
  refine ⟨mnO1 c s.heap.size, ?_, by simp [mnO1, mnO, Cell.setSlot], by simp [mnO1, mnO, Cell.setSlot], ?_, ?_⟩
  · show ((mn2 s c comp).pushCell (mnI comp)).heap[s.heap.size]? = _
    have h9 : s.heap.size < (mn2 s c comp).heap.size := by omega
    rw [State.heap_pushCell_of_lt (h := h9)]
    exact mn2_at s c comp
  · have hv : (mn2 s c comp).vm = s.vm := rfl
    simp [State.fitsSlot, State.slotType?, mnO1, mnO, Cell.setSlot, hv, hk, hkind, fits]
  have e2 : ((mn2 s c comp).pushCell (mnI comp)).setCell s.heap.size ((mnO1 c s.heap.size).setSlot 1 (.ref (mn2 s c comp).heap.size)) = mn4 s c comp := by rw [sz2]; rfl
  generalize hst2 : State.setCell _ _ _ = st2
  obtain rfl : st2 = mn4 s c comp := by rw [← hst2]; exact e2
  simp only [wp_bind, wp_pure, wp_bind', wp_pure']
  exact hq _ _
end MNW
section MNV
variable {p : Program} {l : Launch} {e : Env} {R : Room} {s : State} {m : MethodId} {args : Array Value} {below : List Frame} {meth : Method} {c : Code} {H : Heap} {locs : List Loc} {cells slots : Nat} {Q : State → Prop}
variable {cc : ByteArray} {pc : Nat} {ls : Array Slot} {rest : List Value} {D : va_G} {cl : List vw_C} {A : Nat → Prop} {ws : va_W} {H0 : Heap}
theorem mn_stand {T : State} (X : Stand p l e R s m args below meth c T locs cells slots) (cA comp : ClassId) : Stand p l e R s m args below meth c (mn4 T cA comp) locs (cells + 3) (slots + 122) := by
  have hg : s.heap.size ≤ T.heap.size := X.same.2.1
  have X1 := (X.pushed (mnO cA)).pushed (mnI comp)
  have X2 := X1.stored (a := T.heap.size) (cell := mnO cA) (by
    have h9 : T.heap.size < (T.pushCell (mnO cA)).heap.size := by simp
    rw [State.heap_pushCell_of_lt (h := h9)]
    exact State.heap_pushCell_size _ _) 0 (.ref (T.heap.size + 1))
  have X3 := X2.dropFresh (fun x hx => by rw [List.mem_singleton.mp hx]; exact hg)
  have X4 := X3.pushed (mnI comp)
  have X5 := X4.stored (a := T.heap.size) (cell := mnO1 cA T.heap.size) (by
    show ((mn2 T cA comp).pushCell (mnI comp)).heap[T.heap.size]? = _
    have h9 : T.heap.size < (mn2 T cA comp).heap.size := by rw [mn2_size]; omega
    rw [State.heap_pushCell_of_lt (h := h9)]
    exact mn2_at T cA comp) 1 (.ref (T.heap.size + 2))
  have X6 := X5.dropFresh (fun x hx => by rw [List.mem_singleton.mp hx]; exact hg)
  have e1 : (mnO cA).slots.size = 2 := by simp [mnO]
  have e2 : (mnI comp).slots.size = 60 := by simp [mnI]
  rw [e1, e2] at X6
  exact X6
theorem mna_1 {own : String} {index : Nat} (hexec : p.tables.exec = Jvm.exec) (hb : c.code = cc) (hown : s.vm.findClass own = some m.cls) (hclink : (Cond.classLink own index "[[I").before args s = true) (hover : ao_U s) (harr : (Cond.arrayClass .int).before args s = true)
    (hP : va_P D cl ws H) (hD : va_D A ws) (hS : va_S A H0 H locs) (hcells : cells + 3 ≤ R.cells) (hslots : slots + 122 ≤ R.slots) (hdg : decode cc pc = .ok (.multianewarray index 2, 4))
    (kk : ∀ (q : Nat) (H1 : Heap), va_P D cl ws H1 → va_D A ws → va_S A H0 H1 locs → W p l e R s m args below meth c H1 locs (cells + 3) (slots + 122) Q (F0 m (pc + 4) ls (.ref q :: rest))) : W p l e R s m args below meth c H locs cells slots Q (F0 m pc ls (.int 60 :: .int 2 :: rest)) := by
  intro T hT X
  subst hb
  have hpl : e.platform.magicAccessors = ({} : Platform).magicAccessors := by rw [X.admits.platform]
  obtain ⟨comp, cA, kA, hcomp, -, hkA, hkindA, hnameA⟩ := ao_spec hover
  obtain ⟨comp', kC, cz, hcomp', hkC, hkindC⟩ := Cond.arrayClass_spec harr
  obtain rfl : comp' = comp := Option.some.inj (hcomp'.symm.trans hcomp)
  obtain ⟨c0, hfc0, hcl⟩ := Cond.classLink_spec hown hclink e.platform hpl
  obtain rfl : cA = c0 := Option.some.inj (hnameA.symm.trans hfc0)
  obtain ⟨hg₁, hwarm₁, -⟩ := State.classEntry (e := e) X.warmed hcl
  generalize T.vm.noted m.cls index (.cls cA) = vm₁ at hg₁ hwarm₁
  have hal : s.vm.Alike vm₁ := hwarm₁.alike
  obtain ⟨kA₁, hkA₁, heA⟩ := hal.2.2 _ _ hkA
  obtain ⟨kC₁, hkC₁, heC⟩ := hal.2.2 _ _ hkC
  have hkindA₁ : kA₁.kind = .array comp' (.array .int) := by rw [heA]; exact hkindA
  have hkindC₁ : kC₁.kind = .array cz .int := by rw [heC]; exact hkindC
  have X₁ := X.noted hwarm₁
  have XF := mn_stand X₁ cA comp'
  obtain ⟨hr1, hr2⟩ := X.roomAbove hcells hslots
  have hTs : (T.setVm vm₁).heap = H := hT
  have hold : ∀ x : Nat, x < H.size → (mn4 (T.setVm vm₁) cA comp').heap[x]? = H[x]? := fun x hx => by rw [mn4_old _ _ _ (by rw [hTs]; exact hx), hTs]
  have hsz : H.size ≤ (mn4 (T.setVm vm₁) cA comp').heap.size := by rw [mn4_size, hTs]; omega
  obtain ⟨t, a1, b1⟩ := kk T.heap.size _ (hP.kept (fun k9 x hx => hold x.1 ((hP k9 x hx).lt))) hD ⟨Nat.le_trans hS.1 hsz, fun x h1 h2 => (hold x (Nat.lt_of_lt_of_le h1 hS.1)).trans (hS.2.1 x h1 h2), hS.2.2⟩ _ rfl XF
  refine ⟨t, ?_, b1⟩
  have hl1 : ¬ 60 > e.platform.arrayLengthLimit := by rw [Launch.admits_arrayLengthLimit X.admits]; omega
  have hh1 : ¬ 240 > e.platform.maxHeapBytes := by rw [Launch.admits_maxHeapBytes X.admits]; omega
  jvm_step X.here [hexec, hdg]
  simp only [multianewarray.sem, wp_bind', W.resolveClassAt_links (State.method?_setTop (F0 m pc ls (.int 60 :: .int 2 :: rest)) X.here.top) hg₁]
  rw [W.popN, if_neg (by decide)]
  refine ⟨_, State.topJava?_setTop' (s := T.setVm vm₁) (F0 m pc ls (.int 60 :: .int 2 :: rest)) X.here.top, [.int 2, .int 60], rest, rfl, rfl, ?_⟩
  simp only [List.mapM_cons, List.mapM_nil, wp_bind', wp_pure']
  refine mn_make (k := kA₁) (kc := kC₁) (comp := comp') (cc := cz) hkA₁ hkindA₁ hkC₁ hkindC₁ hl1 hh1 (by show T.heap.size + 3 ≤ _; omega) (by show T.slotsUsed + 122 ≤ _; omega) (fun d' acts' => ?_)
  have eS : ((T.setTop (F0 m pc ls (.int 60 :: .int 2 :: rest))).setVm vm₁).setTop { (F0 m pc ls (.int 60 :: .int 2 :: rest)) with stack := rest } = (T.setVm vm₁).setTop { (F0 m pc ls (.int 60 :: .int 2 :: rest)) with stack := rest } := by
    show ((T.setVm vm₁).setTop _).setTop _ = _
    rw [State.setTop_setTop]
  rw [eS, mn4_setTop]
  simp only [wp_bind', W.mark, W.pushRef, State.topJava?_setTop' _ XF.here.top, Option.some.injEq, exists_eq_left', State.setTop_setTop, State.heap_setTop]
  intro acts
  simp [jvm, XF.here.top]
  exact a1
end MNV
