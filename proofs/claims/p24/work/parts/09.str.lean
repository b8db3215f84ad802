/-! the thirteen texts of the class: what a method that reads them starts from -/
def stT : List String := ["strength", "parts", "heat", "minutes", "look", "day", "in", "pan", "if", "and", "then", "draw", "grade"]
def stL : List Nat := [8, 5, 4, 7, 4, 3, 2, 3, 2, 3, 4, 4, 5]
def stB : List (List Int32) := [[115, 116, 114, 101, 110, 103, 116, 104], [112, 97, 114, 116, 115], [104, 101, 97, 116], [109, 105, 110, 117, 116, 101, 115], [108, 111, 111, 107], [100, 97, 121], [105, 110], [112, 97, 110], [105, 102], [97, 110, 100], [116, 104, 101, 110], [100, 114, 97, 119], [103, 114, 97, 100, 101]]
def stC (i k : Nat) : Int32 := (stB.getD i []).getD k 0
theorem st_all : ∀ i, i < 13 → (2 ≤ stL.getD i 0 ∧ stL.getD i 0 ≤ 8 ∧ ∀ k, k < 8 → k < stL.getD i 0 → stC i k &&& 255 = stC i k ∧ 97 ≤ (stC i k).toInt ∧ (stC i k).toInt ≤ 122) := by decide +kernel
theorem st_len {i : Nat} {x : Int32} (hi : i < 13) (e : x = Int32.ofNat (stL.getD i 0)) : x.toInt = ((stL.getD i 0 : Nat) : Int) ∧ 2 ≤ ((stL.getD i 0 : Nat) : Int) ∧ ((stL.getD i 0 : Nat) : Int) ≤ 8 := by
  obtain ⟨h1, h2, -⟩ := st_all i hi
  refine ⟨?_, by omega, by omega⟩
  rw [e]
  exact Int32.toInt_ofNat_of_lt (by omega)
theorem cl_n {x : Int32} {n : Nat} (h : x.toInt = n) : x.toNatClampNeg = n := by
  show x.toInt.toNat = n
  rw [h]; rfl
def stE (adK adV : Nat → Nat) (fm : Option Nat) (A : Nat → Prop) (U : State) (H : Heap) : Prop := vk_S 13 stL stB adK adV A U H ∧ va_Z "java/lang/String" "COMPACT_STRINGS" "Z" (.int 1) A U H ∧ va_Z "jdk/internal/util/Preconditions" "SIOOBE_FORMATTER" "Ljava/util/function/BiFunction;" (va_rf fm) A U H
theorem stE.moved {adK adV : Nat → Nat} {fm : Option Nat} {A : Nat → Prop} {u U : State} {H : Heap} (hvm : u.vm.Alike U.vm) (h : stE adK adV fm A u H) : stE adK adV fm A U H := ⟨vk_S.moved hvm h.1, va_Z.moved hvm h.2.1, va_Z.moved hvm h.2.2⟩
theorem stE.kept {adK adV : Nat → Nat} {fm : Option Nat} {A : Nat → Prop} {U : State} {H H1 : Heap} (h : stE adK adV fm A U H) (hq : ∀ a : Nat, a < H.size → ¬ A a → H1[a]? = H[a]?) : stE adK adV fm A U H1 := ⟨h.1.kept hq, h.2.1.kept hq, h.2.2.kept hq⟩
theorem stE.narrow {adK adV : Nat → Nat} {fm : Option Nat} {A B : Nat → Prop} {U : State} {H : Heap} (h : stE adK adV fm A U H) (hAB : ∀ q, B q → A q) : stE adK adV fm B U H := ⟨h.1.narrow hAB, h.2.1.narrow hAB, h.2.2.narrow hAB⟩
def stR (adK : Nat → Nat) (U : State) : Prop := ∀ i, i < 13 → vk_R "MapleLines$Tape" (72 + 2 * i) (stT.getD i "") (adK i) U
theorem stR.warm {adK : Nat → Nat} {s U : State} (hW : s.WarmedH U.vm) (h : stR adK s) : stR adK U := fun i hi => vk_R.warm hW (h i hi)
theorem stR.same {adK : Nat → Nat} {u U : State} (hv : U.vm = u.vm) (h : stR adK u) : stR adK U := fun i hi => vk_R.same hv (h i hi)
/-- a method's start, where it reads the texts -/
def pcS (dC : Nat → ClassId) (dI : Nat → Nat → Nat) (av : List Value) (sz : Nat) (ws : va_W) (tys : List (ClassId × FieldType)) (adK adV : Nat → Nat) (fm : Option Nat) : Array Value → State → Prop := va_Pc av (fun U => U.heap.size = sz ∧ va_P (dC, dI) vwCl ws U.heap ∧ va_K (dC, dI) vwCl tys U ∧ va_D (fun _ => True) ws ∧ nw_U U ∧ stE adK adV fm (va_A ws sz) U U.heap ∧ stR adK U)
theorem pcS_blind {dC : Nat → ClassId} {dI : Nat → Nat → Nat} {av : List Value} {sz : Nat} {ws : va_W} {tys : List (ClassId × FieldType)} {adK adV : Nat → Nat} {fm : Option Nat} : FrameBlind (pcS dC dI av sz ws tys adK adV fm) := by
  intro a U g mk q
  obtain ⟨q0, q1, qP, qK, qD, qN, qE, qR⟩ := q
  exact ⟨q0, q1, qP, va_K.moved (u := U) (U := U.calling g mk a) (Vm.Alike.refl U.vm) qK, qD, nw_same (s := U) (U := U.calling g mk a) rfl qN, stE.moved (u := U) (U := U.calling g mk a) (Vm.Alike.refl U.vm) qE, stR.same (u := U) (U := U.calling g mk a) rfl qR⟩
theorem pcS_at {dC : Nat → ClassId} {dI : Nat → Nat → Nat} {av : List Value} {ws : va_W} {tys : List (ClassId × FieldType)} {H : Heap} {s : State} {A A' : Nat → Prop} {adK adV : Nat → Nat} {fm : Option Nat} {locs : List Loc} (hP : va_P (dC, dI) vwCl ws H) (hK : va_K (dC, dI) vwCl tys s) (hD : va_D A' ws) (hN : nw_U s) (hE : stE adK adV fm A s s.heap) (hR : stR adK s) (hS : va_S A s.heap H locs) (hF : ∀ q, va_A ws H.size q → A q) : ∀ U : State, U.heap = H → s.WarmedH U.vm → pcS dC dI av H.size ws tys adK adV fm av.toArray U := fun U hU hW => ⟨rfl, by rw [hU], by rw [hU]; exact hP, va_K.moved hW.alike hK, hD.weaken (fun _ _ _ _ => trivial), nw_warm hW hN, by rw [hU]; exact ((stE.moved hW.alike (hE.kept hS.2.1)).narrow hF), stR.warm hW hR⟩
theorem pnJ0 : plainName RJ0 = true := by decide +kernel
theorem pnJ1 : plainName RJ1 = true := by decide +kernel
theorem pnJ3 : plainName RJ3 = true := by decide +kernel
theorem cl_lt {x : Int32} {n : Nat} (h : 0 ≤ x.toInt ∧ x.toInt < (n : Int)) : x.toNatClampNeg < n := by
  show x.toInt.toNat < n
  omega
