
/-- every place of the array holds v -/
def Cs (f : Nat → Int32) (N : Nat) (v : Int32) : Prop := ∀ k, k < N → f k = v
theorem Rg_Cs {f : Nat → Int32} {N : Nat} {v : Int32} {lo hi : Int} (h : Cs f N v) (hv : lo ≤ v.toInt ∧ v.toInt ≤ hi) : Rg f N lo hi := fun k hk => by rw [h k hk]; exact hv
theorem Rg_wk {f : Nat → Int32} {N : Nat} {lo hi lo' hi' : Int} (h : Rg f N lo hi) (h1 : lo' ≤ lo ∧ hi ≤ hi') : Rg f N lo' hi' := fun k hk => ⟨Int.le_trans h1.1 (h k hk).1, Int.le_trans (h k hk).2 h1.2⟩
theorem Cs_st {f : Nat → Int32} {i N : Nat} {v : Int32} (hN : i < N) (hb : N < 2 ^ 31) (h : Cs f i v) : Cs (upd f (Int32.toNatClampNeg (nI i)) v) (i + 1) v := by
  intro k hk
  rw [nI_clamp (by omega)]
  unfold upd
  split
  · rfl
  · exact h k (by omega)

theorem va_Keq {D : va_G} {cl : List vw_C} {tys : List (ClassId × FieldType)} {U : State} (h : va_K D cl tys U) {a b : ClassId} {ty : FieldType} (i j : Nat) (hi : tys[i]? = some (a, ty)) (hj : tys[j]? = some (b, ty)) : a = b := by
  have h1 := (h.2 i _ hi).2
  have h2 := (h.2 j _ hj).2
  cases ty with
  | object C =>
    obtain ⟨-, -, -, -, -, h3⟩ := h1
    obtain ⟨-, -, -, -, -, h4⟩ := h2
    exact Option.some.inj (h3.symm.trans h4)
  | _ => exact Option.some.inj (Eq.trans (Eq.symm h1) h2)
