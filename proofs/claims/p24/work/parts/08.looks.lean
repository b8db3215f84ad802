/-! an array of two arrays: its cells, and what a load gives -/
def mnF (a b : Nat) : Nat → Option Nat := fun k => if k = 1 then some b else if k = 0 then some a else none
theorem mnI_cell (d : ClassId) : mnI d = vp_cell d (60, .inl (fun _ => 0)) := arrV_new d 60 (.int 0)
theorem mnO2_cell (c : ClassId) (h : Nat) : mnO2 c h = vp_cell c (2, .inr (.inr (.inr (.inr (mnF (h + 1) (h + 2)))))) := by
  have e0 : mnO c = arrV c 2 (fun _ => .null) := arrV_new c 2 .null
  unfold mnO2 mnO1
  rw [e0, arrV_store, arrV_store, vp_cell_q]
  congr 1
  funext j
  unfold updV mnF
  by_cases h1 : j = 1
  · simp [h1, va_rf]
  · by_cases h0 : j = 0
    · simp [h0, va_rf]
    · simp [h1, h0, va_rf]
theorem mn4_at0 (u : State) (c d : ClassId) : (mn4 u c d).heap[u.heap.size]? = some (mnO2 c u.heap.size) := by
  refine State.heap_setCell_self (c := mnO1 c u.heap.size) ?_
  have h := mn2_size u c d
  have h1 : u.heap.size < (mn2 u c d).heap.size := by omega
  rw [State.heap_pushCell_of_lt (h := h1)]
  exact mn2_at u c d
theorem mn4_at1 (u : State) (c d : ClassId) : (mn4 u c d).heap[u.heap.size + 1]? = some (mnI d) := by
  have h := mn2_size u c d
  have h1 : u.heap.size + 1 < (mn2 u c d).heap.size := by omega
  unfold mn4
  rw [State.heap_setCell_other (show u.heap.size ≠ u.heap.size + 1 by omega), State.heap_pushCell_of_lt (h := h1)]
  unfold mn2
  rw [State.heap_setCell_other (show u.heap.size ≠ u.heap.size + 1 by omega)]
  have e : (u.pushCell (mnO c)).heap.size = u.heap.size + 1 := by simp
  rw [← e]
  exact State.heap_pushCell_size _ _
theorem mn4_at2 (u : State) (c d : ClassId) : (mn4 u c d).heap[u.heap.size + 2]? = some (mnI d) := by
  have h := mn2_size u c d
  unfold mn4
  rw [State.heap_setCell_other (show u.heap.size ≠ u.heap.size + 2 by omega), ← h]
  exact State.heap_pushCell_size _ _
theorem mnD1 {A : Nat → Prop} {ws : va_W} {a : Nat} (e : va_E) (hD : va_D A ws) (hlt : ∀ (k : Nat) (q : Nat × va_E), ws[k]? = some q → q.1 < a) (hA : A a) : va_D A (ws ++ [(a, e)]) ∧ ∀ (k : Nat) (q : Nat × va_E), (ws ++ [(a, e)])[k]? = some q → q.1 < a + 1 := by
  have key : ∀ (k : Nat) (q : Nat × va_E), (ws ++ [(a, e)])[k]? = some q → (ws[k]? = some q ∧ q.1 < a) ∨ (k = ws.length ∧ q.1 = a) := by
    intro k q hk
    by_cases hl : k < ws.length
    · rw [List.getElem?_append_left hl] at hk
      exact Or.inl ⟨hk, hlt k q hk⟩
    · rw [List.getElem?_append_right (by omega)] at hk
      have hz : k - ws.length < 1 := (List.getElem?_eq_some_iff.mp hk).1
      have hk0 : k = ws.length := by omega
      subst hk0
      rw [Nat.sub_self] at hk
      cases hk
      exact Or.inr ⟨rfl, rfl⟩
  refine ⟨⟨fun i j x y hi hj hxy => ?_, fun k q hk => ?_⟩, fun k q hk => ?_⟩
  · rcases key i x hi with ⟨h1, l1⟩ | ⟨h1, l1⟩ <;> rcases key j y hj with ⟨h2, l2⟩ | ⟨h2, l2⟩
    · exact hD.1 i j x y h1 h2 hxy
    · omega
    · omega
    · omega
  · rcases key k q hk with ⟨h1, l1⟩ | ⟨h1, l1⟩
    · exact hD.2 k q h1
    · rw [l1]; exact hA
  · rcases key k q hk with ⟨h1, l1⟩ | ⟨h1, l1⟩ <;> omega
theorem mnD3 {A : Nat → Prop} {ws : va_W} {n : Nat} (hD : va_D A ws) (hlt : ∀ (k : Nat) (q : Nat × va_E), ws[k]? = some q → q.1 < n) (hA : ∀ q, n ≤ q → A q) (e1 e2 e3 : va_E) : va_D A (ws ++ [(n, e1), (n + 1, e2), (n + 2, e3)]) := by
  obtain ⟨d1, l1⟩ := mnD1 e1 hD hlt (hA n (Nat.le_refl n))
  obtain ⟨d2, l2⟩ := mnD1 e2 d1 l1 (hA (n + 1) (by omega))
  obtain ⟨d3, -⟩ := mnD1 e3 d2 l2 (hA (n + 1 + 1) (by omega))
  have e : ws ++ [(n, e1), (n + 1, e2), (n + 2, e3)] = ws ++ [(n, e1)] ++ [(n + 1, e2)] ++ [(n + 1 + 1, e3)] := by simp
  rw [e]
  exact d3
theorem cl_0 {i : Int32} (h : i.toInt = 0) : i.toNatClampNeg = 0 := by
  show i.toInt.toNat = 0
  rw [h]; rfl
theorem cl_1 {i : Int32} (h : i.toInt = 1) : i.toNatClampNeg = 1 := by
  show i.toInt.toNat = 1
  rw [h]; rfl
theorem in_0 {i : Int32} (h : i.toInt = 0) : vp_in i 2 := i_in h (by decide)
theorem in_1 {i : Int32} (h : i.toInt = 1) : vp_in i 2 := i_in h (by decide)
section MNV2
variable {p : Program} {l : Launch} {e : Env} {R : Room} {s : State} {m : MethodId} {args : Array Value} {below : List Frame} {meth : Method} {c : Code} {H : Heap} {locs : List Loc} {cells slots : Nat} {Q : State → Prop}
variable {cc : ByteArray} {pc : Nat} {ls : Array Slot} {rest : List Value} {D : va_G} {cl : List vw_C} {A : Nat → Prop} {ws : va_W} {H0 : Heap}
variable {tys : List (ClassId × FieldType)}
theorem va_ald2 (hexec : p.tables.exec = Jvm.exec) (hb : c.code = cc) (hK : va_K D cl tys s) (hP : va_P D cl ws H) (q0 t0 : Nat) {a : Nat} {cA : ClassId} {n b : Nat} {f : Nat → Option Nat} (ha : ws[q0]? = some (a, .inl (cA, n, .inr (.inr (.inr (.inr f)))))) (ht : tys[t0]? = some (cA, .array .int)) {i : Int32} (hin : vp_in i n) (hf : f i.toNatClampNeg = some b) (hdg : decode cc pc = .ok (.aaload, 1))
    (kk : W p l e R s m args below meth c H locs cells slots Q (F0 m (pc + 1) ls (.ref b :: rest))) : W p l e R s m args below meth c H locs cells slots Q (F0 m pc ls (.int i :: .ref a :: rest)) := by
  have hlt : i.toNatClampNeg < n := Nat.not_le.mp fun q => hin (Or.inr q)
  have kk2 : W p l e R s m args below meth c H locs cells slots Q (F0 m (pc + 1) ls (va_rf (f i.toNatClampNeg) :: rest)) := by rw [hf]; exact kk
  exact W.aald (v := va_rf (f i.toNatClampNeg)) (ty := .array .int) hexec hb (hP q0 _ ha) ((hK.2 t0 _ ht).1 n (fun j => va_rf (f j))) rfl (fun q => by cases q) (by show ¬ (i < 0 ∨ (arrV _ _ _).slots.size ≤ _); rw [arrV_size]; exact hin) (by show (arrV _ _ _).slots[_]? = _; rw [arrV_read _ _ hlt]) rfl rfl hdg kk2
theorem va_ald2a (hexec : p.tables.exec = Jvm.exec) (hb : c.code = cc) (hK : va_K D cl tys s) (hP : va_P D cl ws H) (q0 t0 : Nat) {a : Nat} {cA : ClassId} {b b' : Nat} (ha : ws[q0]? = some (a, .inl (cA, 2, .inr (.inr (.inr (.inr (mnF b b'))))))) (ht : tys[t0]? = some (cA, .array .int)) {i : Int32} (hi : i.toInt = 0) (hdg : decode cc pc = .ok (.aaload, 1))
    (kk : W p l e R s m args below meth c H locs cells slots Q (F0 m (pc + 1) ls (.ref b :: rest))) : W p l e R s m args below meth c H locs cells slots Q (F0 m pc ls (.int i :: .ref a :: rest)) := va_ald2 hexec hb hK hP q0 t0 ha ht (in_0 hi) (by rw [cl_0 hi]; rfl) hdg kk
theorem va_ald2b (hexec : p.tables.exec = Jvm.exec) (hb : c.code = cc) (hK : va_K D cl tys s) (hP : va_P D cl ws H) (q0 t0 : Nat) {a : Nat} {cA : ClassId} {b b' : Nat} (ha : ws[q0]? = some (a, .inl (cA, 2, .inr (.inr (.inr (.inr (mnF b b'))))))) (ht : tys[t0]? = some (cA, .array .int)) {i : Int32} (hi : i.toInt = 1) (hdg : decode cc pc = .ok (.aaload, 1))
    (kk : W p l e R s m args below meth c H locs cells slots Q (F0 m (pc + 1) ls (.ref b' :: rest))) : W p l e R s m args below meth c H locs cells slots Q (F0 m pc ls (.int i :: .ref a :: rest)) := va_ald2 hexec hb hK hP q0 t0 ha ht (in_1 hi) (by rw [cl_1 hi]; rfl) hdg kk
theorem mna_2 {own : String} {index : Nat} (hexec : p.tables.exec = Jvm.exec) (hb : c.code = cc) (hown : s.vm.findClass own = some m.cls) (hclink : (Cond.classLink own index "[[I").before args s = true) (hover : ao_U s) (harr : (Cond.arrayClass .int).before args s = true)
    (hK : va_K D cl tys s) (hP : va_P D cl ws H) (hD : va_D A ws) (hS : va_S A H0 H locs) (hA : ∀ q, H0.size ≤ q → A q) (hcells : cells + 3 ≤ R.cells) (hslots : slots + 122 ≤ R.slots) (hdg : decode cc pc = .ok (.multianewarray index 2, 4))
    (kk : ∀ (q a b : Nat) (cA cI : ClassId) (H1 : Heap), va_K D cl (tys ++ [(cA, .array .int), (cI, .int)]) s → va_P D cl (ws ++ [(q, .inl (cA, 2, .inr (.inr (.inr (.inr (mnF a b)))))), (a, .inl (cI, 60, .inl (fun _ => 0))), (b, .inl (cI, 60, .inl (fun _ => 0)))]) H1 → va_D A (ws ++ [(q, .inl (cA, 2, .inr (.inr (.inr (.inr (mnF a b)))))), (a, .inl (cI, 60, .inl (fun _ => 0))), (b, .inl (cI, 60, .inl (fun _ => 0)))]) → va_S A H0 H1 locs → W p l e R s m args below meth c H1 locs (cells + 3) (slots + 122) Q (F0 m (pc + 4) ls (.ref q :: rest))) : W p l e R s m args below meth c H locs cells slots Q (F0 m pc ls (.int 60 :: .int 2 :: rest)) := by
  intro T hT X
  subst hb
  have hpl : e.platform.magicAccessors = ({} : Platform).magicAccessors := by rw [X.admits.platform]
  obtain ⟨comp, cA, kA, hcomp, -, hkA, hkindA, hnameA⟩ := ao_spec hover
  obtain ⟨comp', kC, cz, hcomp', hkC, hkindC⟩ := Cond.arrayClass_spec harr
  obtain rfl : comp' = comp := Option.some.inj (hcomp'.symm.trans hcomp)
  obtain ⟨c0, hfc0, hcl⟩ := Cond.classLink_spec hown hclink e.platform hpl
  obtain rfl : cA = c0 := Option.some.inj (hnameA.symm.trans hfc0)
  obtain ⟨hg₁, hwarm₁, -⟩ := State.classEntry (e := e) X.warmed hcl
  generalize T.vm.noted m.cls index (.cls cA) = vm₁ at hg₁ hwarm₁
  have hal : s.vm.Alike vm₁ := hwarm₁.alike
  obtain ⟨kA₁, hkA₁, heA⟩ := hal.2.2 _ _ hkA
  obtain ⟨kC₁, hkC₁, heC⟩ := hal.2.2 _ _ hkC
  have hkindA₁ : kA₁.kind = .array comp' (.array .int) := by rw [heA]; exact hkindA
  have hkindC₁ : kC₁.kind = .array cz .int := by rw [heC]; exact hkindC
  have X₁ := X.noted hwarm₁
  have XF := mn_stand X₁ cA comp'
  obtain ⟨hr1, hr2⟩ := X.roomAbove hcells hslots
  have hTs : (T.setVm vm₁).heap = H := hT
  have hold : ∀ x : Nat, x < H.size → (mn4 (T.setVm vm₁) cA comp').heap[x]? = H[x]? := fun x hx => by rw [mn4_old _ _ _ (by rw [hTs]; exact hx), hTs]
  have hsz : H.size ≤ (mn4 (T.setVm vm₁) cA comp').heap.size := by rw [mn4_size, hTs]; omega
  have hsz9 : (T.setVm vm₁).heap.size = H.size := by rw [hTs]
  have c0 : (mn4 (T.setVm vm₁) cA comp').heap[H.size]? = some (vp_cell cA (2, .inr (.inr (.inr (.inr (mnF (H.size + 1) (H.size + 2))))))) := by rw [← mnO2_cell, ← hsz9]; exact mn4_at0 _ _ _
  have c1 : (mn4 (T.setVm vm₁) cA comp').heap[H.size + 1]? = some (vp_cell comp' (60, .inl (fun _ => 0))) := by rw [← mnI_cell, ← hsz9]; exact mn4_at1 _ _ _
  have c2 : (mn4 (T.setVm vm₁) cA comp').heap[H.size + 2]? = some (vp_cell comp' (60, .inl (fun _ => 0))) := by rw [← mnI_cell, ← hsz9]; exact mn4_at2 _ _ _
  have hP0 : va_P D cl ws (mn4 (T.setVm vm₁) cA comp').heap := hP.kept (fun k9 x hx => hold x.1 ((hP k9 x hx).lt))
  have hPn : va_P D cl (ws ++ [(H.size, .inl (cA, 2, .inr (.inr (.inr (.inr (mnF (H.size + 1) (H.size + 2))))))), (H.size + 1, .inl (comp', 60, .inl (fun _ => 0))), (H.size + 2, .inl (comp', 60, .inl (fun _ => 0)))]) (mn4 (T.setVm vm₁) cA comp').heap := by
    refine hP0.app (fun k x hx => ?_)
    match k, hx with
    | 0, hx => cases hx; exact c0
    | 1, hx => cases hx; exact c1
    | 2, hx => cases hx; exact c2
    | k + 3, hx => simp at hx
  have hDn := mnD3 (A := A) (n := H.size) hD (fun k9 x hx => (hP k9 x hx).lt) (fun q hq => hA q (Nat.le_trans hS.1 hq)) (.inl (cA, 2, .inr (.inr (.inr (.inr (mnF (H.size + 1) (H.size + 2))))))) (.inl (comp', 60, .inl (fun _ => 0))) (.inl (comp', 60, .inl (fun _ => 0)))
  have hKn : va_K D cl (tys ++ [(cA, .array .int), (comp', .int)]) s := by
    refine hK.app ⟨hK.1, fun k x hx => ?_⟩
    match k, hx with
    | 0, hx => cases hx; exact ⟨fun n z => ⟨fun _ h => (by cases h), kA, hkA, comp', hkindA⟩, hnameA⟩
    | 1, hx => cases hx; exact ⟨fun n z => ⟨fun _ h => (by cases h), kC, hkC, cz, hkindC⟩, hcomp'⟩
    | k + 2, hx => simp at hx
  have hTz : T.heap.size = H.size := by rw [show T.heap = H from hT]
  obtain ⟨t, a1, b1⟩ := kk H.size (H.size + 1) (H.size + 2) cA comp' _ hKn hPn hDn ⟨Nat.le_trans hS.1 hsz, fun x h1 h2 => (hold x (Nat.lt_of_lt_of_le h1 hS.1)).trans (hS.2.1 x h1 h2), hS.2.2⟩ _ rfl XF
  rw [← hTz] at a1
  refine ⟨t, ?_, b1⟩
  have hl1 : ¬ 60 > e.platform.arrayLengthLimit := by rw [Launch.admits_arrayLengthLimit X.admits]; omega
  have hh1 : ¬ 240 > e.platform.maxHeapBytes := by rw [Launch.admits_maxHeapBytes X.admits]; omega
  jvm_step X.here [hexec, hdg]
  simp only [multianewarray.sem, wp_bind', W.resolveClassAt_links (State.method?_setTop (F0 m pc ls (.int 60 :: .int 2 :: rest)) X.here.top) hg₁]
  rw [W.popN, if_neg (by decide)]
  refine ⟨_, State.topJava?_setTop' (s := T.setVm vm₁) (F0 m pc ls (.int 60 :: .int 2 :: rest)) X.here.top, [.int 2, .int 60], rest, rfl, rfl, ?_⟩
  simp only [List.mapM_cons, List.mapM_nil, wp_bind', wp_pure']
  refine mn_make (k := kA₁) (kc := kC₁) (comp := comp') (cc := cz) hkA₁ hkindA₁ hkC₁ hkindC₁ hl1 hh1 (by show T.heap.size + 3 ≤ _; omega) (by show T.slotsUsed + 122 ≤ _; omega) (fun d' acts' => ?_)
  have eS : ((T.setTop (F0 m pc ls (.int 60 :: .int 2 :: rest))).setVm vm₁).setTop { (F0 m pc ls (.int 60 :: .int 2 :: rest)) with stack := rest } = (T.setVm vm₁).setTop { (F0 m pc ls (.int 60 :: .int 2 :: rest)) with stack := rest } := by
    show ((T.setVm vm₁).setTop _).setTop _ = _
    rw [State.setTop_setTop]
  rw [eS, mn4_setTop]
  simp only [wp_bind', W.mark, W.pushRef, State.topJava?_setTop' _ XF.here.top, Option.some.injEq, exists_eq_left', State.setTop_setTop, State.heap_setTop]
  intro acts
  simp [jvm, XF.here.top]
  exact a1
end MNV2
