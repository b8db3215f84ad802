/-! counts, kept rows -/
def cntB (P : Nat → Bool) : Nat → Int
  | 0 => 0
  | n + 1 => cntB P n + (if P n = true then 1 else 0)
theorem cntB_nn (P : Nat → Bool) : ∀ n, 0 ≤ cntB P n := by
  intro n
  induction n with
  | zero => exact Int.le_refl 0
  | succ n ih =>
    show 0 ≤ cntB P n + (if P n = true then 1 else 0)
    have : (0 : Int) ≤ (if P n = true then 1 else 0) := by split <;> decide
    omega
theorem cntB_mono (P : Nat → Bool) : ∀ d n, cntB P n ≤ cntB P (n + d) := by
  intro d
  induction d with
  | zero => intro n; exact Int.le_refl _
  | succ d ih =>
    intro n
    have := ih n
    show cntB P n ≤ cntB P (n + d) + (if P (n + d) = true then 1 else 0)
    have : (0 : Int) ≤ (if P (n + d) = true then 1 else 0) := by split <;> decide
    omega
theorem cntB_eq {P Q : Nat → Bool} : ∀ n, (∀ k, k < n → P k = Q k) → cntB P n = cntB Q n := by
  intro n
  induction n with
  | zero => intro _; rfl
  | succ n ih =>
    intro h
    show cntB P n + (if P n = true then 1 else 0) = cntB Q n + (if Q n = true then 1 else 0)
    rw [ih (fun k hk => h k (by omega)), h n (by omega)]
theorem i_abs {x u : Int32} {a : Int} (ha : u.toInt = a) (h : -2147483648 < a) (e : x = if 0 ≤ u then u else 0 - u) : (0 ≤ a ∧ x.toInt = a) ∨ (a < 0 ∧ x.toInt = - a) := by
  have hr := rg_rng u
  have z : (0 : Int32).toInt = 0 := by decide
  rw [e]
  split
  · rename_i q; exact Or.inl ⟨by have := i_le z ha q; omega, ha⟩
  · rename_i q; right
    have := i_nle z ha q
    refine ⟨this, ?_⟩
    have w := i_sub (x := 0 - u) z ha (by omega) rfl
    rw [w]; omega
theorem cl_s {i i2 : Int32} (h0 : 0 ≤ i.toInt) (h : i2.toInt = i.toInt + 1) : i2.toNatClampNeg = i.toNatClampNeg + 1 := by
  show i2.toInt.toNat = i.toInt.toNat + 1
  omega
theorem cl_e {i n : Int32} (h : i.toInt = n.toInt) : i.toNatClampNeg = n.toNatClampNeg := by
  show i.toInt.toNat = n.toInt.toNat
  rw [h]
def Cn (P : Nat → Bool) (i j : Int32) : Prop := 0 ≤ i.toInt ∧ j.toInt = cntB P i.toNatClampNeg
theorem Cn_0 {P : Nat → Bool} : Cn P 0 0 := ⟨by decide, rfl⟩
theorem Cn_t {P : Nat → Bool} {i j i2 j2 : Int32} (h : Cn P i j) (hP : P i.toNatClampNeg = true) (hi : i2.toInt = i.toInt + 1) (hj : j2.toInt = j.toInt + 1) : Cn P i2 j2 := by
  have a := h.1
  refine ⟨by omega, ?_⟩
  rw [cl_s h.1 hi, hj, h.2]
  show _ = cntB P i.toNatClampNeg + (if P i.toNatClampNeg = true then 1 else 0)
  rw [if_pos hP]
theorem Cn_f {P : Nat → Bool} {i j i2 j2 : Int32} (h : Cn P i j) (hP : P i.toNatClampNeg = false) (hi : i2.toInt = i.toInt + 1) (hj : j2.toInt = j.toInt) : Cn P i2 j2 := by
  have a := h.1
  refine ⟨by omega, ?_⟩
  rw [cl_s h.1 hi, hj, h.2]
  show _ = cntB P i.toNatClampNeg + (if P i.toNatClampNeg = true then 1 else 0)
  rw [hP, if_neg (by decide)]
  omega
theorem Cn_e {P : Nat → Bool} {i j n : Int32} (h : Cn P i j) (hi : i.toInt = n.toInt) : j.toInt = cntB P n.toNatClampNeg := by rw [h.2, cl_e hi]
def No (P : Nat → Bool) (i : Int32) : Prop := 0 ≤ i.toInt ∧ cntB P i.toNatClampNeg = 0
theorem No_0 {P : Nat → Bool} : No P 0 := ⟨by decide, rfl⟩
theorem No_f {P : Nat → Bool} {i i2 : Int32} (h : No P i) (hP : P i.toNatClampNeg = false) (hi : i2.toInt = i.toInt + 1) : No P i2 := by
  have a := h.1
  refine ⟨by omega, ?_⟩
  rw [cl_s h.1 hi]
  show cntB P i.toNatClampNeg + (if P i.toNatClampNeg = true then 1 else 0) = 0
  rw [h.2, hP, if_neg (by decide)]; rfl
theorem No_e {P : Nat → Bool} {i n : Int32} (h : No P i) (hi : i.toInt = n.toInt) : cntB P n.toNatClampNeg = 0 := by rw [← cl_e hi, h.2]
theorem No_t {P : Nat → Bool} {i n : Int32} (h : 0 ≤ i.toInt ∧ i.toInt < n.toInt) (hP : P i.toNatClampNeg = true) : 0 < cntB P n.toNatClampNeg := by
  have e : n.toNatClampNeg = (i.toNatClampNeg + 1) + (n.toNatClampNeg - (i.toNatClampNeg + 1)) := by
    show n.toInt.toNat = (i.toInt.toNat + 1) + (n.toInt.toNat - (i.toInt.toNat + 1))
    omega
  have m := cntB_mono P (n.toNatClampNeg - (i.toNatClampNeg + 1)) (i.toNatClampNeg + 1)
  rw [← e] at m
  have q : cntB P (i.toNatClampNeg + 1) = cntB P i.toNatClampNeg + 1 := by
    show cntB P i.toNatClampNeg + (if P i.toNatClampNeg = true then 1 else 0) = _
    rw [if_pos hP]
  have nn := cntB_nn P i.toNatClampNeg
  omega
/-- a row that may have got one more at its end -/
def Ua (w f : Nat → Int32) (n v n2 : Int32) : Prop := (n2.toInt = n.toInt ∧ w = f) ∨ (n2.toInt = n.toInt + 1 ∧ w = upd f n.toNatClampNeg v)
theorem Ua_s {f : Nat → Int32} {n v n2 : Int32} (h : n2.toInt = n.toInt) : Ua f f n v n2 := Or.inl ⟨h, rfl⟩
theorem Ua_u {w f : Nat → Int32} {n v n2 : Int32} (h : n2.toInt = n.toInt + 1) (e : upd f n.toNatClampNeg v = w) : Ua w f n v n2 := Or.inr ⟨h, e.symm⟩
theorem Ua_eq {w w' f : Nat → Int32} {n v n2 n2' : Int32} (h : Ua w f n v n2) (h' : Ua w' f n v n2') (e : n2.toInt = n2'.toInt) : w = w' := by
  rcases h with ⟨a, b⟩ | ⟨a, b⟩ <;> rcases h' with ⟨a', b'⟩ | ⟨a', b'⟩
  · rw [b, b']
  · omega
  · omega
  · rw [b, b']
theorem cnt_Ua {w f : Nat → Int32} {n v n2 : Int32} (h : Ua w f n v n2) (h2 : 0 ≤ n.toInt ∧ n2.toInt = n.toInt + 1) : cntB (fun k => decide (w k = v)) n2.toNatClampNeg = cntB (fun k => decide (f k = v)) n.toNatClampNeg + 1 := by
  rcases h with ⟨a, b⟩ | ⟨a, b⟩
  · omega
  · rw [cl_s h2.1 h2.2]
    show cntB (fun k => decide (w k = v)) n.toNatClampNeg + (if decide (w n.toNatClampNeg = v) = true then 1 else 0) = _
    have e1 : w n.toNatClampNeg = v := by rw [b]; exact pk_us
    rw [if_pos (decide_eq_true e1)]
    congr 1
    refine cntB_eq _ (fun k hk => ?_)
    have e2 : w k = f k := by rw [b]; exact pk_un (by omega)
    show decide (w k = v) = decide (f k = v)
    rw [e2]
def mayI (g : Int) : Int := if g < 80 then 0 else if g < 150 then 1 else if g < 200 then 2 else 3
/-- the holes are of this year or of one before it -/
def Yr (f : Nat → Int32) (n y : Int32) : Prop := ∀ k : Nat, k < n.toNatClampNeg → 0 ≤ (f k).toInt ∧ (f k).toInt ≤ y.toInt
theorem Yr_0 {f : Nat → Int32} {y : Int32} : Yr f 0 y := fun k hk => by
  have : (0 : Int32).toNatClampNeg = 0 := by decide
  omega
theorem Yr_up {f : Nat → Int32} {n y y2 : Int32} (h : Yr f n y) (hy : y.toInt ≤ y2.toInt) : Yr f n y2 := fun k hk => ⟨(h k hk).1, Int.le_trans (h k hk).2 hy⟩
theorem Yr_Ua {w f : Nat → Int32} {n y n2 : Int32} (h : Yr f n y) (u : Ua w f n y n2) (hn : 0 ≤ n.toInt ∧ 0 ≤ y.toInt) : Yr w n2 y := by
  rcases u with ⟨a, b⟩ | ⟨a, b⟩
  · intro k hk
    rw [b]
    rw [cl_e a] at hk
    exact h k hk
  · intro k hk
    rw [cl_s hn.1 a] at hk
    by_cases q : k = n.toNatClampNeg
    · rw [b, q, pk_us]; exact ⟨hn.2, Int.le_refl _⟩
    · rw [b, pk_un q]; exact h k (by omega)
theorem cnt_yr {ft f : Nat → Int32} {n y t : Int32} (h : Yr f n y) : cntB (fun k => decide (ft k = t ∧ y.toInt ≤ (f k).toInt)) n.toNatClampNeg = cntB (fun k => decide (ft k = t ∧ f k = y)) n.toNatClampNeg := by
  refine cntB_eq _ (fun k hk => ?_)
  have q := h k hk
  apply decide_eq_decide.mpr
  rw [← Int32.toInt_inj (x := f k)]
  constructor <;> intro z <;> exact ⟨z.1, by omega⟩
theorem cnt_y0 {ft f : Nat → Int32} {n y t : Int32} (h : Yr f n y) : cntB (fun k => decide (ft k = t ∧ (0 : Int) ≤ (f k).toInt)) n.toNatClampNeg = cntB (fun k => decide (ft k = t)) n.toNatClampNeg := by
  refine cntB_eq _ (fun k hk => ?_)
  have q := h k hk
  apply decide_eq_decide.mpr
  exact ⟨fun z => z.1, fun z => ⟨z, q.1⟩⟩
