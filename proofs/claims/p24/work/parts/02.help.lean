
def nw_ok (w : Cond) : Prop := w.onTables = true ∧ ∀ (s U : State), s.WarmedH U.vm → va_Nw w s → va_Nw w U
theorem nw_all : ∀ w ∈ nw_ws, nw_ok w := List.forall_mem_cons.mpr ⟨⟨rfl, fun _ _ hW h => va_Nw.warmF hW h⟩, List.forall_mem_cons.mpr ⟨⟨rfl, fun _ _ hW h => va_Nw.warmM hW h⟩, List.forall_mem_cons.mpr ⟨⟨rfl, fun _ _ hW h => va_Nw.warmF hW h⟩, List.forall_mem_cons.mpr ⟨⟨rfl, fun _ _ hW h => va_Nw.warmF hW h⟩, List.forall_mem_cons.mpr ⟨⟨rfl, fun _ _ hW h => va_Nw.warmM hW h⟩, List.forall_mem_cons.mpr ⟨⟨rfl, fun _ _ hW h => va_Nw.warmF hW h⟩, List.forall_mem_cons.mpr ⟨⟨rfl, fun _ _ hW h => va_Nw.warmF hW h⟩, List.forall_mem_cons.mpr ⟨⟨rfl, fun _ _ hW h => va_Nw.warmF hW h⟩, List.forall_mem_cons.mpr ⟨⟨rfl, fun _ _ hW h => va_Nw.warmM hW h⟩, List.forall_mem_cons.mpr ⟨⟨rfl, fun _ _ hW h => va_Nw.warmM hW h⟩, List.forall_mem_cons.mpr ⟨⟨rfl, fun _ _ hW h => va_Nw.warmF hW h⟩, List.forall_mem_cons.mpr ⟨⟨rfl, fun _ _ hW h => va_Nw.warmF hW h⟩, List.forall_mem_cons.mpr ⟨⟨rfl, fun _ _ hW h => va_Nw.warmF hW h⟩, List.forall_mem_cons.mpr ⟨⟨rfl, fun _ _ hW h => va_Nw.warmF hW h⟩, List.forall_mem_cons.mpr ⟨⟨rfl, fun _ _ hW h => va_Nw.warmM hW h⟩, List.forall_mem_cons.mpr ⟨⟨rfl, fun _ _ hW h => va_Nw.warmF hW h⟩, List.forall_mem_cons.mpr ⟨⟨rfl, fun _ _ hW h => va_Nw.warmF hW h⟩, List.forall_mem_cons.mpr ⟨⟨rfl, fun _ _ hW h => va_Nw.warmF hW h⟩, List.forall_mem_cons.mpr ⟨⟨rfl, fun _ _ hW h => va_Nw.warmF hW h⟩, List.forall_mem_cons.mpr ⟨⟨rfl, fun _ _ hW h => va_Nw.warmM hW h⟩, List.forall_mem_cons.mpr ⟨⟨rfl, fun _ _ hW h => va_Nw.warmF hW h⟩, List.forall_mem_cons.mpr ⟨⟨rfl, fun _ _ hW h => va_Nw.warmM hW h⟩, List.forall_mem_cons.mpr ⟨⟨rfl, fun _ _ hW h => va_Nw.warmM hW h⟩, List.forall_mem_cons.mpr ⟨⟨rfl, fun _ _ hW h => va_Nw.warmF hW h⟩, List.forall_mem_cons.mpr ⟨⟨rfl, fun _ _ hW h => va_Nw.warmM hW h⟩, List.forall_mem_cons.mpr ⟨⟨rfl, fun _ _ hW h => va_Nw.warmF hW h⟩, List.forall_mem_cons.mpr ⟨⟨rfl, fun _ _ hW h => va_Nw.warmM hW h⟩, List.forall_mem_cons.mpr ⟨⟨rfl, fun _ _ hW h => va_Nw.warmM hW h⟩, List.forall_mem_cons.mpr ⟨⟨rfl, fun _ _ hW h => va_Nw.warmM hW h⟩, List.forall_mem_cons.mpr ⟨⟨rfl, fun _ _ hW h => va_Nw.warmM hW h⟩, List.forall_mem_cons.mpr ⟨⟨rfl, fun _ _ hW h => va_Nw.warmM hW h⟩, fun _ h => absurd h List.not_mem_nil⟩⟩⟩⟩⟩⟩⟩⟩⟩⟩⟩⟩⟩⟩⟩⟩⟩⟩⟩⟩⟩⟩⟩⟩⟩⟩⟩⟩⟩⟩⟩
def ao_U (U : State) : Prop := (Cond.arrayOver (.array .int)).before #[] U = true
theorem ao_spec {U : State} (h : ao_U U) : ∃ comp c k, U.vm.findClass (FieldType.array .int).toString = some comp ∧ (U.vm.classes.findIdx? fun (x : Class) => match x.kind with | .array component _ => component == comp | _ => false) = some c ∧ U.vm.classes[c]? = some k ∧ k.kind = .array comp (.array .int) ∧ U.vm.findClass ("[" ++ (FieldType.array .int).toString) = some c := by
  unfold ao_U Cond.before Cond.holds at h
  simp only [Cond.value, beq_iff_eq] at h
  cases hc : U.vm.findClass (FieldType.array .int).toString with
  | none => simp [hc] at h
  | some comp =>
    simp only [hc, Option.bind_some, Option.bind_eq_some_iff, Option.map_eq_some_iff] at h
    obtain ⟨c, hi, k, hk, hb⟩ := h
    obtain ⟨hlt, hp, -⟩ := Array.findIdx?_eq_some_iff_getElem.mp hi
    have hkk : U.vm.classes[c] = k := (Array.getElem?_eq_some_iff.mp hk).2
    rw [hkk] at hp
    cases hkind : k.kind with
    | array component ty =>
      rw [hkind] at hb hp
      simp at hb hp
      exact ⟨comp, c, k, rfl, hi, hk, by rw [hkind, hp, hb.1], hb.2⟩
    | _ => rw [hkind] at hb; simp at hb
theorem ao_moved {u U : State} (hvm : u.vm.Alike U.vm) (h : ao_U u) : ao_U U := by
  obtain ⟨comp, c, k, h1, h2, h3, h4, h5⟩ := ao_spec h
  obtain ⟨k', hk', he⟩ := hvm.2.2 _ _ h3
  have hbe : U.vm.bare = u.vm.bare := by first | exact hvm.bare_eq | exact hvm.bare_eq.symm
  have e1 := va_idx_bare U.vm comp
  have e2 := va_idx_bare u.vm comp
  rw [hbe] at e1
  have hi : (U.vm.classes.findIdx? fun (x : Class) => match x.kind with | .array component _ => component == comp | _ => false) = some c := e1.symm.trans (e2.trans h2)
  have hkind : k'.kind = .array comp (.array .int) := by rw [he]; exact h4
  have f1 : U.vm.findClass (FieldType.array .int).toString = some comp := by rw [hvm.findClass]; exact h1
  have f2 : U.vm.findClass ("[" ++ (FieldType.array .int).toString) = some c := by rw [hvm.findClass]; exact h5
  unfold ao_U Cond.before Cond.holds
  simp only [Cond.value]
  rw [f1, Option.bind_some]
  refine (congrArg (fun o : Option Nat => (o.bind (fun c => (U.vm.classes[c]?).map fun (k : Class) => match k.kind with | .array _ ty => decide (ty = FieldType.array .int) && decide (U.vm.findClass ("[" ++ (FieldType.array .int).toString) = some c) | _ => false) == some true)) hi).trans ?_
  simp [hk', hkind, f2]
def nw_U (U : State) : Prop := (∀ w ∈ nw_ws, va_Nw w U) ∧ ao_U U
theorem nw_warm {s U : State} (hW : s.WarmedH U.vm) (h : nw_U s) : nw_U U := ⟨fun w hw => (nw_all w hw).2 s U hW (h.1 w hw), ao_moved hW.alike h.2⟩
theorem nw_same {s U : State} (hv : s.vm = U.vm) (h : nw_U s) : nw_U U := ⟨fun w hw => va_Nw.same (nw_all w hw).1 hv (h.1 w hw), ao_moved (by rw [hv]; exact Vm.Alike.refl _) h.2⟩
/-- a method's start -/
def pcW (dC : Nat → ClassId) (dI : Nat → Nat → Nat) (av : List Value) (sz : Nat) (ws : va_W) (tys : List (ClassId × FieldType)) : Array Value → State → Prop := va_Pc av (fun U => U.heap.size = sz ∧ va_P (dC, dI) vwCl ws U.heap ∧ va_K (dC, dI) vwCl tys U ∧ va_D (fun _ => True) ws ∧ nw_U U)
theorem pcW_blind {dC : Nat → ClassId} {dI : Nat → Nat → Nat} {av : List Value} {sz : Nat} {ws : va_W} {tys : List (ClassId × FieldType)} : FrameBlind (pcW dC dI av sz ws tys) := by
  intro a U g mk q
  obtain ⟨q0, q1, qP, qK, qD, qN⟩ := q
  exact ⟨q0, q1, qP, va_K.moved (u := U) (U := U.calling g mk a) (Vm.Alike.refl U.vm) qK, qD, nw_same (s := U) (U := U.calling g mk a) rfl qN⟩
theorem pcW_at {dC : Nat → ClassId} {dI : Nat → Nat → Nat} {av : List Value} {ws : va_W} {tys : List (ClassId × FieldType)} {H : Heap} {s : State} {A : Nat → Prop} (hP : va_P (dC, dI) vwCl ws H) (hK : va_K (dC, dI) vwCl tys s) (hD : va_D A ws) (hN : nw_U s) : ∀ U : State, U.heap = H → s.WarmedH U.vm → pcW dC dI av H.size ws tys av.toArray U := fun U hU hW => ⟨rfl, by rw [hU], by rw [hU]; exact hP, va_K.moved hW.alike hK, hD.weaken (fun _ _ _ _ => trivial), nw_warm hW hN⟩
theorem nilP {D : va_G} {cl : List vw_C} {H : Heap} : va_P D cl [] H := fun k q h => by simp at h
theorem nilD {A : Nat → Prop} : va_D A [] := ⟨fun i j p q h => by simp at h, fun k q h => by simp at h⟩
section MY
variable {p : Program} {l : Launch} {e : Env} {R : Room} {s : State} {m : MethodId} {args : Array Value} {below : List Frame} {meth : Method} {c : Code} {H : Heap} {locs : List Loc} {cells slots : Nat} {Q : State → Prop}
variable {cc : ByteArray} {pc : Nat} {ls : Array Slot} {rest : List Value} {D : va_G} {cl : List vw_C} {A : Nat → Prop} {ws : va_W} {H0 : Heap}
theorem lv_tope {x y : Int32} (h : x = y) (k : W p l e R s m args below meth c H locs cells slots Q (F0 m pc ls (.int y :: rest))) : W p l e R s m args below meth c H locs cells slots Q (F0 m pc ls (.int x :: rest)) := h ▸ k
theorem lv_topel {x y : Int64} (h : x = y) (k : W p l e R s m args below meth c H locs cells slots Q (F0 m pc ls (.long y :: rest))) : W p l e R s m args below meth c H locs cells slots Q (F0 m pc ls (.long x :: rest)) := h ▸ k
theorem go0 {g : JFrame} {wsP : Heap → Prop} (hP : wsP s.heap) (hS : va_S A s.heap s.heap []) (k : ∀ (H : Heap) (locs : List Loc), wsP H → va_S A s.heap H locs → W p l e R s m args below meth c H locs 0 0 Q g) : W p l e R s m args below meth c s.heap [] 0 0 Q g := k _ _ hP hS
end MY
theorem vin {x c : Int32} (n : Nat) (h1 : 0 ≤ x) (h2 : x ≤ c) (hc : c.toInt < n) : vp_in x n := by
  rw [vp_in_iff]
  rw [Int32.le_iff_toInt_le] at h1 h2
  have h0 : (0 : Int32).toInt = 0 := by decide
  omega
theorem ltN {i N : Nat} {x : Int32} (hx : x = nI N) (h : i < N) (hN : N < 2 ^ 31) : ¬ x ≤ nI i := by rw [hx]; exact nI_ge h hN
theorem geN {i N : Nat} {x : Int32} (hx : x = nI N) (h : N ≤ i) (hN : i < 2 ^ 31) : x ≤ nI i := by rw [hx]; exact nI_le h hN
theorem ltN' {i N : Nat} {x : Int32} (hx : x = nI N) (h : i < N) (hN : N < 2 ^ 31) : nI i < x := by rw [hx]; exact nI_lt h hN
theorem geN' {i N : Nat} {x : Int32} (hx : x = nI N) (h : N ≤ i) (hN : i < 2 ^ 31) : ¬ nI i < x := by rw [hx]; exact nI_nlt h hN

/-- every place of the array holds a number from lo to hi -/
def Rg (f : Nat → Int32) (N : Nat) (lo hi : Int) : Prop := ∀ k, k < N → lo ≤ (f k).toInt ∧ (f k).toInt ≤ hi
theorem rg_rng (x : Int32) : -2147483648 ≤ x.toInt ∧ x.toInt < 2147483648 := ⟨Int32.le_toInt x, Int32.toInt_lt x⟩
theorem rg_bm {z : Int} (h1 : -2147483648 ≤ z) (h2 : z < 2147483648) : z.bmod (2 ^ 32) = z := by
  apply Int.bmod_eq_of_le <;> omega
theorem i_lt {x y : Int32} {a b : Int} (ha : x.toInt = a) (hb : y.toInt = b) (h : x < y) : a < b := by rw [← ha, ← hb]; exact Int32.lt_iff_toInt_lt.mp h
theorem i_nlt {x y : Int32} {a b : Int} (ha : x.toInt = a) (hb : y.toInt = b) (h : ¬ x < y) : b ≤ a := by rw [← ha, ← hb]; exact Int.not_lt.mp (fun q => h (Int32.lt_iff_toInt_lt.mpr q))
theorem i_le {x y : Int32} {a b : Int} (ha : x.toInt = a) (hb : y.toInt = b) (h : x ≤ y) : a ≤ b := by rw [← ha, ← hb]; exact Int32.le_iff_toInt_le.mp h
theorem i_nle {x y : Int32} {a b : Int} (ha : x.toInt = a) (hb : y.toInt = b) (h : ¬ x ≤ y) : b < a := by rw [← ha, ← hb]; exact Int.not_le.mp (fun q => h (Int32.le_iff_toInt_le.mpr q))
theorem i_eq {x y : Int32} {a b : Int} (ha : x.toInt = a) (hb : y.toInt = b) (h : x = y) : a = b := by rw [← ha, ← hb, h]
theorem i_ne {x y : Int32} {a b : Int} (ha : x.toInt = a) (hb : y.toInt = b) (h : ¬ x = y) : ¬ a = b := by rw [← ha, ← hb]; exact fun q => h (Int32.toInt_inj.mp q)
theorem i_of {x y : Int32} {a b : Int} (ha : x.toInt = a) (hb : y.toInt = b) (h : a = b) : x = y := Int32.toInt_inj.mp (by rw [ha, hb, h])
theorem i_add {x u v : Int32} {a b : Int} (ha : u.toInt = a) (hb : v.toInt = b) (h : -2147483648 ≤ a + b ∧ a + b < 2147483648) (e : x = u + v) : x.toInt = a + b := by rw [e, Int32.toInt_add, ha, hb]; exact rg_bm h.1 h.2
theorem i_sub {x u v : Int32} {a b : Int} (ha : u.toInt = a) (hb : v.toInt = b) (h : -2147483648 ≤ a - b ∧ a - b < 2147483648) (e : x = u - v) : x.toInt = a - b := by rw [e, Int32.toInt_sub, ha, hb]; exact rg_bm h.1 h.2
theorem i_mul {x u v : Int32} {a b : Int} (ha : u.toInt = a) (hb : v.toInt = b) (h : -2147483648 ≤ a * b ∧ a * b < 2147483648) (e : x = u * v) : x.toInt = a * b := by rw [e, Int32.toInt_mul, ha, hb]; exact rg_bm h.1 h.2
theorem i_max {x u v : Int32} {a b : Int} (ha : u.toInt = a) (hb : v.toInt = b) (e : x = if u < v then v else u) : (a < b ∧ x.toInt = b) ∨ (b ≤ a ∧ x.toInt = a) := by
  rw [e]; split
  · rename_i h; exact Or.inl ⟨i_lt ha hb h, hb⟩
  · rename_i h; exact Or.inr ⟨i_nlt ha hb h, ha⟩
theorem i_min {x u v : Int32} {a b : Int} (ha : u.toInt = a) (hb : v.toInt = b) (e : x = if v < u then v else u) : (b < a ∧ x.toInt = b) ∨ (a ≤ b ∧ x.toInt = a) := by
  rw [e]; split
  · rename_i h; exact Or.inl ⟨i_lt hb ha h, hb⟩
  · rename_i h; exact Or.inr ⟨i_nlt hb ha h, ha⟩
theorem i_in {x : Int32} {n : Nat} {a : Int} (ha : x.toInt = a) (h : 0 ≤ a ∧ a < n) : vp_in x n := vp_in_iff.mpr (by rw [ha]; exact h)
theorem i_cl {x : Int32} {n : Nat} (h : vp_in x n) : x.toNatClampNeg < n := Nat.not_le.mp fun q => h (Or.inr q)
theorem Rg_ld {f : Nat → Int32} {N : Nat} {lo hi : Int} {i x : Int32} (h : Rg f N lo hi) (hi' : vp_in i N) (e : x = f i.toNatClampNeg) : lo ≤ x.toInt ∧ x.toInt ≤ hi := by rw [e]; exact h _ (i_cl hi')
theorem Rg_st {f : Nat → Int32} {N k : Nat} {lo hi : Int} {v : Int32} {a : Int} (h : Rg f N lo hi) (ha : v.toInt = a) (hv : lo ≤ a ∧ a ≤ hi) : Rg (upd f k v) N lo hi := by
  intro j hj
  unfold upd
  split
  · rw [ha]; exact hv
  · exact h j hj
theorem i_lne {n : Int32} {y : Int64} (e : y = n.toInt64) (h : ¬ n.toInt = 0) : ¬ y = 0 := by
  intro q
  apply h
  have h2 : y.toInt = n.toInt := by rw [e]; simp
  rw [← h2, q]
  decide
theorem Rg_0 {N : Nat} {lo hi : Int} (h : lo ≤ 0 ∧ 0 ≤ hi) : Rg (fun _ => 0) N lo hi := fun _ _ => h
