
/-- every place of the array holds v -/
def Cs (f : Nat → Int32) (N : Nat) (v : Int32) : Prop := ∀ k, k < N → f k = v
theorem Rg_Cs {f : Nat → Int32} {N : Nat} {v : Int32} {lo hi : Int} (h : Cs f N v) (hv : lo ≤ v.toInt ∧ v.toInt ≤ hi) : Rg f N lo hi := fun k hk => by rw [h k hk]; exact hv
theorem Rg_wk {f : Nat → Int32} {N : Nat} {lo hi lo' hi' : Int} (h : Rg f N lo hi) (h1 : lo' ≤ lo ∧ hi ≤ hi') : Rg f N lo' hi' := fun k hk => ⟨Int.le_trans h1.1 (h k hk).1, Int.le_trans (h k hk).2 h1.2⟩
theorem Cs_st {f : Nat → Int32} {i N : Nat} {v : Int32} (hN : i < N) (hb : N < 2 ^ 31) (h : Cs f i v) : Cs (upd f (Int32.toNatClampNeg (nI i)) v) (i + 1) v := by
  intro k hk
  rw [nI_clamp (by omega)]
  unfold upd
  split
  · rfl
  · exact h k (by omega)
