
def nw_ok (w : Cond) : Prop := w.onTables = true ∧ ∀ (s U : State), s.WarmedH U.vm → va_Nw w s → va_Nw w U
theorem nw_all : ∀ w ∈ nw_ws, nw_ok w := List.forall_mem_cons.mpr ⟨⟨rfl, fun _ _ hW h => va_Nw.warmF hW h⟩, List.forall_mem_cons.mpr ⟨⟨rfl, fun _ _ hW h => va_Nw.warmM hW h⟩, List.forall_mem_cons.mpr ⟨⟨rfl, fun _ _ hW h => va_Nw.warmF hW h⟩, List.forall_mem_cons.mpr ⟨⟨rfl, fun _ _ hW h => va_Nw.warmF hW h⟩, List.forall_mem_cons.mpr ⟨⟨rfl, fun _ _ hW h => va_Nw.warmM hW h⟩, List.forall_mem_cons.mpr ⟨⟨rfl, fun _ _ hW h => va_Nw.warmF hW h⟩, List.forall_mem_cons.mpr ⟨⟨rfl, fun _ _ hW h => va_Nw.warmF hW h⟩, List.forall_mem_cons.mpr ⟨⟨rfl, fun _ _ hW h => va_Nw.warmF hW h⟩, List.forall_mem_cons.mpr ⟨⟨rfl, fun _ _ hW h => va_Nw.warmM hW h⟩, List.forall_mem_cons.mpr ⟨⟨rfl, fun _ _ hW h => va_Nw.warmM hW h⟩, List.forall_mem_cons.mpr ⟨⟨rfl, fun _ _ hW h => va_Nw.warmF hW h⟩, List.forall_mem_cons.mpr ⟨⟨rfl, fun _ _ hW h => va_Nw.warmF hW h⟩, List.forall_mem_cons.mpr ⟨⟨rfl, fun _ _ hW h => va_Nw.warmF hW h⟩, List.forall_mem_cons.mpr ⟨⟨rfl, fun _ _ hW h => va_Nw.warmF hW h⟩, List.forall_mem_cons.mpr ⟨⟨rfl, fun _ _ hW h => va_Nw.warmM hW h⟩, List.forall_mem_cons.mpr ⟨⟨rfl, fun _ _ hW h => va_Nw.warmF hW h⟩, List.forall_mem_cons.mpr ⟨⟨rfl, fun _ _ hW h => va_Nw.warmF hW h⟩, List.forall_mem_cons.mpr ⟨⟨rfl, fun _ _ hW h => va_Nw.warmF hW h⟩, List.forall_mem_cons.mpr ⟨⟨rfl, fun _ _ hW h => va_Nw.warmF hW h⟩, List.forall_mem_cons.mpr ⟨⟨rfl, fun _ _ hW h => va_Nw.warmM hW h⟩, List.forall_mem_cons.mpr ⟨⟨rfl, fun _ _ hW h => va_Nw.warmF hW h⟩, List.forall_mem_cons.mpr ⟨⟨rfl, fun _ _ hW h => va_Nw.warmM hW h⟩, List.forall_mem_cons.mpr ⟨⟨rfl, fun _ _ hW h => va_Nw.warmM hW h⟩, List.forall_mem_cons.mpr ⟨⟨rfl, fun _ _ hW h => va_Nw.warmF hW h⟩, List.forall_mem_cons.mpr ⟨⟨rfl, fun _ _ hW h => va_Nw.warmM hW h⟩, List.forall_mem_cons.mpr ⟨⟨rfl, fun _ _ hW h => va_Nw.warmF hW h⟩, List.forall_mem_cons.mpr ⟨⟨rfl, fun _ _ hW h => va_Nw.warmM hW h⟩, List.forall_mem_cons.mpr ⟨⟨rfl, fun _ _ hW h => va_Nw.warmM hW h⟩, List.forall_mem_cons.mpr ⟨⟨rfl, fun _ _ hW h => va_Nw.warmM hW h⟩, List.forall_mem_cons.mpr ⟨⟨rfl, fun _ _ hW h => va_Nw.warmM hW h⟩, List.forall_mem_cons.mpr ⟨⟨rfl, fun _ _ hW h => va_Nw.warmM hW h⟩, fun _ h => absurd h List.not_mem_nil⟩⟩⟩⟩⟩⟩⟩⟩⟩⟩⟩⟩⟩⟩⟩⟩⟩⟩⟩⟩⟩⟩⟩⟩⟩⟩⟩⟩⟩⟩⟩
def ao_U (U : State) : Prop := (Cond.arrayOver (.array .int)).before #[] U = true
theorem ao_spec {U : State} (h : ao_U U) : ∃ comp c k, U.vm.findClass (FieldType.array .int).toString = some comp ∧ (U.vm.classes.findIdx? fun (x : Class) => match x.kind with | .array component _ => component == comp | _ => false) = some c ∧ U.vm.classes[c]? = some k ∧ k.kind = .array comp (.array .int) ∧ U.vm.findClass ("[" ++ (FieldType.array .int).toString) = some c := by
  unfold ao_U Cond.before Cond.holds at h
  simp only [Cond.value, beq_iff_eq] at h
  cases hc : U.vm.findClass (FieldType.array .int).toString with
  | none => simp [hc] at h
  | some comp =>
    simp only [hc, Option.bind_some, Option.bind_eq_some_iff, Option.map_eq_some_iff] at h
    obtain ⟨c, hi, k, hk, hb⟩ := h
    obtain ⟨hlt, hp, -⟩ := Array.findIdx?_eq_some_iff_getElem.mp hi
    have hkk : U.vm.classes[c] = k := (Array.getElem?_eq_some_iff.mp hk).2
    rw [hkk] at hp
    cases hkind : k.kind with
    | array component ty =>
      rw [hkind] at hb hp
      simp at hb hp
      exact ⟨comp, c, k, rfl, hi, hk, by rw [hkind, hp, hb.1], hb.2⟩
    | _ => rw [hkind] at hb; simp at hb
theorem ao_moved {u U : State} (hvm : u.vm.Alike U.vm) (h : ao_U u) : ao_U U := by
  obtain ⟨comp, c, k, h1, h2, h3, h4, h5⟩ := ao_spec h
  obtain ⟨k', hk', he⟩ := hvm.2.2 _ _ h3
  have hbe : U.vm.bare = u.vm.bare := by first | exact hvm.bare_eq | exact hvm.bare_eq.symm
  have e1 := va_idx_bare U.vm comp
  have e2 := va_idx_bare u.vm comp
  rw [hbe] at e1
  have hi : (U.vm.classes.findIdx? fun (x : Class) => match x.kind with | .array component _ => component == comp | _ => false) = some c := e1.symm.trans (e2.trans h2)
  have hkind : k'.kind = .array comp (.array .int) := by rw [he]; exact h4
  have f1 : U.vm.findClass (FieldType.array .int).toString = some comp := by rw [hvm.findClass]; exact h1
  have f2 : U.vm.findClass ("[" ++ (FieldType.array .int).toString) = some c := by rw [hvm.findClass]; exact h5
  unfold ao_U Cond.before Cond.holds
  simp only [Cond.value]
  rw [f1, Option.bind_some]
  refine (congrArg (fun o : Option Nat => (o.bind (fun c => (U.vm.classes[c]?).map fun (k : Class) => match k.kind with | .array _ ty => decide (ty = FieldType.array .int) && decide (U.vm.findClass ("[" ++ (FieldType.array .int).toString) = some c) | _ => false) == some true)) hi).trans ?_
  simp [hk', hkind, f2]
def nw_U (U : State) : Prop := (∀ w ∈ nw_ws, va_Nw w U) ∧ ao_U U
theorem nw_warm {s U : State} (hW : s.WarmedH U.vm) (h : nw_U s) : nw_U U := ⟨fun w hw => (nw_all w hw).2 s U hW (h.1 w hw), ao_moved hW.alike h.2⟩
theorem nw_same {s U : State} (hv : s.vm = U.vm) (h : nw_U s) : nw_U U := ⟨fun w hw => va_Nw.same (nw_all w hw).1 hv (h.1 w hw), ao_moved (by rw [hv]; exact Vm.Alike.refl _) h.2⟩
/-- a method's start -/
def pcW (dC : Nat → ClassId) (dI : Nat → Nat → Nat) (av : List Value) (sz : Nat) (ws : va_W) (tys : List (ClassId × FieldType)) : Array Value → State → Prop := va_Pc av (fun U => U.heap.size = sz ∧ va_P (dC, dI) vwCl ws U.heap ∧ va_K (dC, dI) vwCl tys U ∧ va_D (fun _ => True) ws ∧ nw_U U)
theorem pcW_blind {dC : Nat → ClassId} {dI : Nat → Nat → Nat} {av : List Value} {sz : Nat} {ws : va_W} {tys : List (ClassId × FieldType)} : FrameBlind (pcW dC dI av sz ws tys) := by
  intro a U g mk q
  obtain ⟨q0, q1, qP, qK, qD, qN⟩ := q
  exact ⟨q0, q1, qP, va_K.moved (u := U) (U := U.calling g mk a) (Vm.Alike.refl U.vm) qK, qD, nw_same (s := U) (U := U.calling g mk a) rfl qN⟩
theorem pcW_at {dC : Nat → ClassId} {dI : Nat → Nat → Nat} {av : List Value} {ws : va_W} {tys : List (ClassId × FieldType)} {H : Heap} {s : State} {A : Nat → Prop} (hP : va_P (dC, dI) vwCl ws H) (hK : va_K (dC, dI) vwCl tys s) (hD : va_D A ws) (hN : nw_U s) : ∀ U : State, U.heap = H → s.WarmedH U.vm → pcW dC dI av H.size ws tys av.toArray U := fun U hU hW => ⟨rfl, by rw [hU], by rw [hU]; exact hP, va_K.moved hW.alike hK, hD.weaken (fun _ _ _ _ => trivial), nw_warm hW hN⟩
theorem nilP {D : va_G} {cl : List vw_C} {H : Heap} : va_P D cl [] H := fun k q h => by simp at h
theorem nilD {A : Nat → Prop} : va_D A [] := ⟨fun i j p q h => by simp at h, fun k q h => by simp at h⟩
section MY
variable {p : Program} {l : Launch} {e : Env} {R : Room} {s : State} {m : MethodId} {args : Array Value} {below : List Frame} {meth : Method} {c : Code} {H : Heap} {locs : List Loc} {cells slots : Nat} {Q : State → Prop}
variable {cc : ByteArray} {pc : Nat} {ls : Array Slot} {rest : List Value} {D : va_G} {cl : List vw_C} {A : Nat → Prop} {ws : va_W} {H0 : Heap}
theorem lv_tope {x y : Int32} (h : x = y) (k : W p l e R s m args below meth c H locs cells slots Q (F0 m pc ls (.int y :: rest))) : W p l e R s m args below meth c H locs cells slots Q (F0 m pc ls (.int x :: rest)) := h ▸ k
theorem lv_topel {x y : Int64} (h : x = y) (k : W p l e R s m args below meth c H locs cells slots Q (F0 m pc ls (.long y :: rest))) : W p l e R s m args below meth c H locs cells slots Q (F0 m pc ls (.long x :: rest)) := h ▸ k
theorem go0 {g : JFrame} {wsP : Heap → Prop} (hP : wsP s.heap) (hS : va_S A s.heap s.heap []) (k : ∀ (H : Heap) (locs : List Loc), wsP H → va_S A s.heap H locs → W p l e R s m args below meth c H locs 0 0 Q g) : W p l e R s m args below meth c s.heap [] 0 0 Q g := k _ _ hP hS
end MY
theorem vin {x c : Int32} (n : Nat) (h1 : 0 ≤ x) (h2 : x ≤ c) (hc : c.toInt < n) : vp_in x n := by
  rw [vp_in_iff]
  rw [Int32.le_iff_toInt_le] at h1 h2
  have h0 : (0 : Int32).toInt = 0 := by decide
  omega
theorem ltN {i N : Nat} {x : Int32} (hx : x = nI N) (h : i < N) (hN : N < 2 ^ 31) : ¬ x ≤ nI i := by rw [hx]; exact nI_ge h hN
theorem geN {i N : Nat} {x : Int32} (hx : x = nI N) (h : N ≤ i) (hN : i < 2 ^ 31) : x ≤ nI i := by rw [hx]; exact nI_le h hN
theorem ltN' {i N : Nat} {x : Int32} (hx : x = nI N) (h : i < N) (hN : N < 2 ^ 31) : nI i < x := by rw [hx]; exact nI_lt h hN
theorem geN' {i N : Nat} {x : Int32} (hx : x = nI N) (h : N ≤ i) (hN : i < 2 ^ 31) : ¬ nI i < x := by rw [hx]; exact nI_nlt h hN

def sp_in (v a b : Int32) : Prop := a ≤ v ∧ v ≤ b
def sp_node (a b c d : Int32) : Int32 := if a = 0 ∧ (1 ≤ b ∧ b ≤ 100) ∧ (0 ≤ c ∧ c ≤ 500) ∧ (0 ≤ d ∧ d ≤ 9) then 1 else -1
def sp_pump (a : Int32) : Int32 := if 0 ≤ a ∧ a ≤ 100 then 1 else 0
def sp_tell (w : Int32) : Int32 := if w = 0 then -1 else if w = 1 then 0 else if w = 2 then 1 else if w = 3 then 0 else if w = 4 then -1 else if w = 5 then 0 else if w = 7 then -1 else if w = 8 then 0 else -1
def sp_nodeOf (a w : Int32) : Int32 := if a = 0 then (if w = 6 then 0 else sp_tell w) else -1
def sp_weather (a b : Int32) : Prop := ((-30) ≤ a ∧ a ≤ 30) ∧ ((-30) ≤ b ∧ b ≤ 40) ∧ a ≤ b
def sp_day (a b : Int32) : Int32 := if ((-30) ≤ a ∧ a ≤ 30) ∧ ((-30) ≤ b ∧ b ≤ 40) ∧ a ≤ b then 1 else -1
def sp_wood (a : Int32) : Int32 := if 0 ≤ a ∧ a ≤ 10000 then a else -1
def sp_boil (a : Int32) : Int32 := if 0 ≤ a ∧ a ≤ 300 then 0 else -1
def sp_pan (w : Int32) : Int32 := if w = 0 then 0 else if w = 1 then 0 else if w = 2 then 0 else if w = 3 then 0 else if w = 4 then 0 else if w = 5 then 0 else -1
def sp_member (a w : Int32) : Int32 := if 0 ≤ a ∧ a ≤ 9 then (if w = 0 then 0 else if w = 1 then 0 else -1) else -1
def sp_rules (a : Int32) : Int32 := if a = 0 then 0 else -2
def sp_count (w : Int32) : Int32 := if w = 0 then 0 else if w = 1 then 0 else if w = 2 then 1 else if w = 3 then 0 else if w = 4 then 0 else if w = 5 then 0 else if w = 6 then 0 else if w = 7 then 0 else if w = 8 then 0 else if w = 9 then 0 else if w = 10 then 0 else if w = 11 then 0 else if w = 12 then 0 else -1
theorem ix11 {f t x y : Int32} (hf : 0 ≤ f ∧ f ≤ 10) (ht : 0 ≤ t ∧ t ≤ 10) (e1 : x = 11 * f) (e2 : y = x + t) : vp_in y 121 := by
  obtain ⟨i, hi, rfl⟩ := nI_of2 (n := 10) (by decide) (Int32.not_lt.mpr hf.1) hf.2
  obtain ⟨j, hj, rfl⟩ := nI_of2 (n := 10) (by decide) (Int32.not_lt.mpr ht.1) ht.2
  rw [e2, e1, show (11 : Int32) = nI 11 from rfl, pk_mul, nI_add]
  exact vp_in_nI (by omega) (by decide)
theorem ix11' {f t x y : Int32} (hf : 0 ≤ f ∧ f ≤ 10) (ht : 0 ≤ t ∧ t ≤ 10) (e1 : x = f * 11) (e2 : y = x + t) : vp_in y 121 := by
  obtain ⟨i, hi, rfl⟩ := nI_of2 (n := 10) (by decide) (Int32.not_lt.mpr hf.1) hf.2
  obtain ⟨j, hj, rfl⟩ := nI_of2 (n := 10) (by decide) (Int32.not_lt.mpr ht.1) ht.2
  rw [e2, e1, show (11 : Int32) = nI 11 from rfl, pk_mul, nI_add]
  exact vp_in_nI (by omega) (by decide)
theorem pos1 {v : Int32} (h : 1 ≤ v ∧ v ≤ 5000) : ¬ v ≤ 0 := by
  intro h2
  have h0 : (0 : Int32).toInt = 0 := by decide
  have h1 : (1 : Int32).toInt = 1 := by decide
  have h3 := h.1
  rw [Int32.le_iff_toInt_le] at h2 h3
  omega
theorem pos2 {v : Int32} (h : 1 ≤ v ∧ v ≤ 5000) : 0 < v := Int32.not_le.mp (pos1 h)
theorem mm10 {v x y : Int32} (e1 : x = if v < 10 then v else 10) (e2 : y = if 0 < x then x else 0) : 0 ≤ y ∧ y ≤ 10 := by
  have h10 : (10 : Int32).toInt = 10 := by decide
  have h0 : (0 : Int32).toInt = 0 := by decide
  have hx : x ≤ 10 := by
    rw [e1]; split
    · rename_i h; rw [Int32.le_iff_toInt_le]; rw [Int32.lt_iff_toInt_lt] at h; omega
    · exact Int32.le_refl _
  rw [e2]; split
  · rename_i h; exact ⟨by rw [Int32.le_iff_toInt_le]; rw [Int32.lt_iff_toInt_lt] at h; omega, hx⟩
  · exact ⟨Int32.le_refl _, by decide⟩
