/-! the pool's coins: what is over is less than the members -/
def sumF (f : Nat → Int32) : Nat → Int
  | 0 => 0
  | n + 1 => sumF f n + (f n).toInt
theorem sumF_bd {f : Nat → Int32} {B : Int} (h : Rg f 10 0 B) (hB0 : 0 ≤ B) : ∀ n : Nat, n ≤ 10 → 0 ≤ sumF f n ∧ sumF f n ≤ n * B := by
  intro n
  induction n with
  | zero => intro _; exact ⟨Int.le_refl 0, by simp [sumF]⟩
  | succ n ih =>
    intro hn
    have q := ih (by omega)
    have r := h n (by omega)
    have e : ((n + 1 : Nat) : Int) * B = (n : Int) * B + B := by rw [Int.natCast_add]; simp [Int.add_mul]
    show 0 ≤ sumF f n + (f n).toInt ∧ sumF f n + (f n).toInt ≤ _
    rw [e]
    omega
theorem sumF_mono {f : Nat → Int32} {B : Int} (h : Rg f 10 0 B) : ∀ (d n : Nat), n + d ≤ 10 → sumF f n ≤ sumF f (n + d) := by
  intro d
  induction d with
  | zero => intro n _; exact Int.le_refl _
  | succ d ih =>
    intro n hn
    have q := ih n (by omega)
    have r := h (n + d) (by omega)
    show sumF f n ≤ sumF f (n + d) + (f (n + d)).toInt
    omega
def Sm (f : Nat → Int32) (i : Int32) (a : Int64) : Prop := 0 ≤ i.toInt ∧ i.toInt ≤ 10 ∧ a.toInt = sumF f i.toNatClampNeg
theorem Sm_0 {f : Nat → Int32} : Sm f 0 0 := ⟨by decide, by decide, rfl⟩
theorem l_rng (x : Int64) : -9223372036854775808 ≤ x.toInt ∧ x.toInt < 9223372036854775808 := ⟨Int64.le_toInt x, Int64.toInt_lt x⟩
theorem l_bm {z : Int} (h1 : -9223372036854775808 ≤ z) (h2 : z < 9223372036854775808) : z.bmod (2 ^ 64) = z := by
  apply Int.bmod_eq_of_le <;> omega
theorem l_i2l {n : Int32} {x : Int64} (e : x = n.toInt64) : x.toInt = n.toInt := by rw [e]; simp
theorem cl_succ {i i2 : Int32} (h0 : 0 ≤ i.toInt) (h : i2.toInt = i.toInt + 1) : i2.toNatClampNeg = i.toNatClampNeg + 1 := by
  have a := cl_int (x := i) h0
  have b := cl_int (x := i2) (by omega)
  omega
theorem Sm_bd {f : Nat → Int32} {i : Int32} {a : Int64} {B : Int} (h : Sm f i a) (hr : Rg f 10 0 B) (hB : 0 ≤ B ∧ B ≤ 356400000) : 0 ≤ a.toInt ∧ a.toInt ≤ 3564000000 := by
  have hc := cl_int (x := i) h.1
  have hn : i.toNatClampNeg ≤ 10 := by have := h.2.1; omega
  have q := sumF_bd hr hB.1 i.toNatClampNeg hn
  rw [h.2.2]
  have e : (i.toNatClampNeg : Int) * B ≤ 10 * 356400000 := (mul_bd (a := (i.toNatClampNeg : Int)) (b := B) (A := 10) (B := 356400000) ⟨by omega, by omega⟩ hB).2
  omega
theorem Sm_st {f : Nat → Int32} {i i2 c : Int32} {a a2 x : Int64} {B : Int} (h : Sm f i a) (hr : Rg f 10 0 B) (hB : 0 ≤ B ∧ B ≤ 356400000) (hi : 0 ≤ i.toInt ∧ i.toInt < 10 ∧ i2.toInt = i.toInt + 1) (e1 : a2 = a + x) (e2 : x = c.toInt64) (e3 : c = f i.toNatClampNeg) : Sm f i2 a2 := by
  have b := Sm_bd h hr hB
  have hc := cl_int (x := i) hi.1
  have r := hr i.toNatClampNeg (by omega)
  have h2 := cl_succ hi.1 hi.2.2
  refine ⟨by omega, by omega, ?_⟩
  rw [h2]
  show a2.toInt = sumF f i.toNatClampNeg + (f i.toNatClampNeg).toInt
  rw [← h.2.2, ← e3, e1, Int64.toInt_add, l_i2l e2]
  rw [← e3] at r
  exact l_bm (by omega) (by omega)
theorem l_cmp0 {a : Int64} {n : Int32} (e : n = lg_cmp a 0) : n.toInt = 0 ∨ ¬ a.toInt = 0 := by
  by_cases h : a = 0
  · left; rw [e, h]; decide
  · right
    intro q
    apply h
    exact Int64.toInt_inj.mp (by rw [q]; decide)
theorem l_ne0 {a : Int64} (h : ¬ a.toInt = 0) : ¬ a = 0 := fun q => h (by rw [q]; decide)
/-- i members have had their whole coins of c, r is over -/
def SI (f : Nat → Int32) (c : Int32) (a : Int64) (i r : Int32) : Prop := 0 ≤ i.toInt ∧ i.toInt ≤ 10 ∧ 0 ≤ r.toInt ∧ r.toInt ≤ c.toInt ∧ a.toInt * (c.toInt - r.toInt) ≤ c.toInt * sumF f i.toNatClampNeg ∧ c.toInt * sumF f i.toNatClampNeg ≤ a.toInt * (c.toInt - r.toInt) + i.toInt * (a.toInt - 1)
theorem SI_0 {f : Nat → Int32} {c : Int32} {a : Int64} (h : 0 ≤ c.toInt) : SI f c a 0 c := by
  have z : (0 : Int32).toInt = 0 := by decide
  have w : sumF f (0 : Int32).toNatClampNeg = 0 := rfl
  refine ⟨by rw [z]; exact Int.le_refl 0, by rw [z]; decide, h, Int.le_refl _, ?_, ?_⟩
  · rw [w, Int.sub_self, Int.mul_zero, Int.mul_zero]; exact Int.le_refl 0
  · rw [w, z, Int.sub_self, Int.mul_zero, Int.mul_zero, Int.zero_mul]; exact Int.le_refl 0
theorem SI_pure {a c r S w o i : Int} (ha : 0 < a) (hi : 0 ≤ i) (h1 : a * (c - r) ≤ c * S) (h2 : c * S ≤ a * (c - r) + i * (a - 1)) (d1 : a * o ≤ c * w) (d2 : c * w ≤ a * o + (a - 1)) (hS : S + w ≤ a) (hc : 0 ≤ c) (ho : 0 ≤ o) (hr : r ≤ c) : a * (c - (r - o)) ≤ c * (S + w) ∧ c * (S + w) ≤ a * (c - (r - o)) + (i + 1) * (a - 1) ∧ 0 ≤ r - o ∧ r - o ≤ c := by
  have e1 : a * (c - (r - o)) = a * (c - r) + a * o := by rw [show c - (r - o) = (c - r) + o by omega, Int.mul_add]
  have e2 : c * (S + w) = c * S + c * w := Int.mul_add _ _ _
  have e3 : (i + 1) * (a - 1) = i * (a - 1) + (a - 1) := by rw [Int.add_mul]; omega
  have k1 : a * (c - (r - o)) ≤ c * (S + w) := by rw [e1, e2]; omega
  refine ⟨k1, by rw [e1, e2, e3]; omega, ?_, by omega⟩
  have k2 : c * (S + w) ≤ c * a := Int.mul_le_mul_of_nonneg_left hS hc
  have k3 : a * (c - (r - o)) ≤ a * c := by rw [Int.mul_comm a c]; omega
  have k4 : c - (r - o) ≤ c := Int.le_of_mul_le_mul_left k3 ha
  omega
theorem SI_st {f : Nat → Int32} {c i i2 r r2 w o : Int32} {a x1 x2 x3 x4 : Int64} {ten : Int32} {B : Int} (h : SI f c a i r) (hs : Sm f ten a) (ht : ten.toInt = 10) (hr : Rg f 10 0 B) (hB : 0 ≤ B ∧ B ≤ 356400000) (hc : 0 ≤ c.toInt ∧ c.toInt ≤ 1000000) (ha : 0 < a.toInt) (hi : 0 ≤ i.toInt ∧ i.toInt < 10 ∧ i2.toInt = i.toInt + 1)
    (e1 : x1 = c.toInt64) (e3 : w = f i.toNatClampNeg) (e2 : x2 = w.toInt64) (e4 : x3 = x1 * x2) (e5 : x4 = x3 / a) (e6 : o = x4.toInt32) (e7 : r2 = r - o) : SI f c a i2 r2 := by
  have hcl := cl_int (x := i) hi.1
  have hw := hr i.toNatClampNeg (by omega)
  rw [← e3] at hw
  have h2 := cl_succ hi.1 hi.2.2
  have hS0 := sumF_bd hr hB.1 i.toNatClampNeg (by omega)
  have ten' : ten.toNatClampNeg = 10 := cl_n (n := 10) (by rw [ht]; rfl)
  have hSa : sumF f i.toNatClampNeg + w.toInt ≤ a.toInt := by
    have m := sumF_mono hr (10 - (i.toNatClampNeg + 1)) (i.toNatClampNeg + 1) (by omega)
    rw [show i.toNatClampNeg + 1 + (10 - (i.toNatClampNeg + 1)) = 10 by omega] at m
    rw [hs.2.2, ten', e3]
    exact m
  have hp := mul_bd (a := c.toInt) (b := w.toInt) (A := 1000000) (B := 356400000) hc ⟨hw.1, by omega⟩
  have e3' : x3.toInt = c.toInt * w.toInt := by
    rw [e4, Int64.toInt_mul, l_i2l e1, l_i2l e2]
    exact l_bm (by omega) (by omega)
  have hle : c.toInt * w.toInt ≤ c.toInt * a.toInt := Int.mul_le_mul_of_nonneg_left (by omega) hc.1
  have hd0 : 0 ≤ (c.toInt * w.toInt) / a.toInt := Int.ediv_nonneg hp.1 (by omega)
  have hd1 : (c.toInt * w.toInt) / a.toInt ≤ c.toInt := by
    have := Int.ediv_le_ediv ha hle
    rw [Int.mul_ediv_cancel _ (by omega)] at this
    exact this
  have e4' : x4.toInt = (c.toInt * w.toInt) / a.toInt := by
    rw [e5, Int64.toInt_div, e3', Int.tdiv_eq_ediv_of_nonneg hp.1]
    exact l_bm (by omega) (by omega)
  have eo : o.toInt = (c.toInt * w.toInt) / a.toInt := by
    rw [e6, Int64.toInt_toInt32, e4']
    exact rg_bm (by omega) (by omega)
  have em := Int.emod_add_mul_ediv (c.toInt * w.toInt) a.toInt
  have em0 := Int.emod_nonneg (c.toInt * w.toInt) (show a.toInt ≠ 0 by omega)
  have em1 := Int.emod_lt_of_pos (c.toInt * w.toInt) ha
  obtain ⟨g1, g2, g3, g4, g5, g6⟩ := h
  have er : r2.toInt = r.toInt - o.toInt := i_sub rfl rfl (by rw [eo]; omega) e7
  have q := SI_pure (a := a.toInt) (c := c.toInt) (r := r.toInt) (S := sumF f i.toNatClampNeg) (w := w.toInt) (o := o.toInt) (i := i.toInt) ha hi.1 g5 g6 (by rw [eo]; omega) (by rw [eo]; omega) hSa hc.1 (by omega) g4
  have es : sumF f i2.toNatClampNeg = sumF f i.toNatClampNeg + w.toInt := by rw [h2, e3]; rfl
  exact ⟨by omega, by omega, by rw [er]; exact q.2.2.1, by rw [er]; exact q.2.2.2, by rw [er, es]; exact q.1, by rw [er, es, hi.2.2]; exact q.2.1⟩
theorem SI_end {f : Nat → Int32} {c : Int32} {a : Int64} {i r ten : Int32} (h : SI f c a i r) (hs : Sm f ten a) (ht : ten.toInt = 10) (hi : i.toInt = 10) (ha : 0 < a.toInt) : 0 ≤ r.toInt ∧ r.toInt ≤ 9 := by
  obtain ⟨g1, g2, g3, g4, g5, g6⟩ := h
  have ten' : ten.toNatClampNeg = 10 := cl_n (n := 10) (by rw [ht]; rfl)
  have i' : i.toNatClampNeg = 10 := cl_n (n := 10) (by rw [hi]; rfl)
  have hS : sumF f i.toNatClampNeg = a.toInt := by rw [i', hs.2.2, ten']
  rw [hS, hi] at g6
  refine ⟨g3, ?_⟩
  have e1 : a.toInt * (c.toInt - r.toInt) = a.toInt * c.toInt - a.toInt * r.toInt := Int.mul_sub _ _ _
  rw [e1, Int.mul_comm c.toInt a.toInt] at g6
  have k : a.toInt * r.toInt < a.toInt * 10 := by rw [Int.mul_comm a.toInt 10]; omega
  have := Int.lt_of_mul_lt_mul_left k (by omega)
  omega
/-- how many of the first n have had one more -/
def cntM (f : Nat → Int32) : Nat → Int
  | 0 => 0
  | n + 1 => cntM f n + (if f n = 0 then 0 else 1)
theorem cntM_z {f : Nat → Int32} {a : Int} (h : Cz f a) : ∀ n : Nat, (n : Int) ≤ a → cntM f n = 0 := by
  intro n
  induction n with
  | zero => intro _; rfl
  | succ n ih =>
    intro hn
    have q : f n = 0 := Int32.toInt_inj.mp (by rw [h n (by omega)]; decide)
    show cntM f n + (if f n = 0 then 0 else 1) = 0
    rw [ih (by omega), if_pos q]; rfl
theorem cntM_all {f : Nat → Int32} {m : Nat} (h : ∀ k, k < m → ¬ f k = 0) : ∀ n : Nat, n ≤ m → cntM f n = n := by
  intro n
  induction n with
  | zero => intro _; rfl
  | succ n ih =>
    intro hn
    show cntM f n + (if f n = 0 then 0 else 1) = _
    rw [ih (by omega), if_neg (h n (by omega))]
    omega
theorem cntM_st {f : Nat → Int32} {b : Nat} {v : Int32} : ∀ n : Nat, cntM (upd f b v) n ≤ cntM f n + (if b < n then 1 else 0) ∧ 0 ≤ cntM f n := by
  intro n
  induction n with
  | zero => exact ⟨by simp [cntM], Int.le_refl 0⟩
  | succ n ih =>
    have hf : (0 : Int) ≤ (if f n = 0 then 0 else 1) := by split <;> decide
    refine ⟨?_, by show 0 ≤ cntM f n + (if f n = 0 then 0 else 1); omega⟩
    show cntM (upd f b v) n + (if upd f b v n = 0 then 0 else 1) ≤ cntM f n + (if f n = 0 then 0 else 1) + _
    by_cases hb : n = b
    · have h1 : (if b < n then (1 : Int) else 0) = 0 := if_neg (by omega)
      have h2 : (if b < n + 1 then (1 : Int) else 0) = 1 := if_pos (by omega)
      have h3 : (if upd f b v n = 0 then (0 : Int) else 1) ≤ 1 := by split <;> decide
      rw [h1] at ih
      rw [h2]
      omega
    · have h1 : upd f b v n = f n := if_neg hb
      rw [h1]
      have h2 : (if b < n + 1 then (1 : Int) else 0) = (if b < n then 1 else 0) := by
        by_cases q : b < n
        · rw [if_pos q, if_pos (by omega)]
        · rw [if_neg q, if_neg (by omega)]
      rw [h2]
      omega
def Ht (f : Nat → Int32) (r : Int32) : Prop := cntM f 10 + r.toInt ≤ 9
def Ht1 (f : Nat → Int32) (r : Int32) : Prop := cntM f 10 + r.toInt ≤ 10
theorem Ht_0 {f : Nat → Int32} {a : Int} {r : Int32} (h : Cz f a) (ha : 10 ≤ a) (hr : r.toInt ≤ 9) : Ht f r := by
  unfold Ht
  rw [cntM_z h 10 (by omega)]
  omega
theorem Ht_st {f : Nat → Int32} {b : Nat} {v r : Int32} (h : Ht f r) : Ht1 (upd f b v) r := by
  have q := (cntM_st (f := f) (b := b) (v := v) 10).1
  have w : (if b < 10 then (1 : Int) else 0) ≤ 1 := by split <;> decide
  unfold Ht at h
  unfold Ht1
  omega
theorem Ht_nx {f : Nat → Int32} {r r2 : Int32} (h : Ht1 f r) (hr : r2.toInt = r.toInt - 1) : Ht f r2 := by
  unfold Ht1 at h
  unfold Ht
  omega
def Hb (f : Nat → Int32) (m b : Int32) : Prop := b.toInt = -1 → ∀ k : Nat, (k : Int) < m.toInt → ¬ f k = 0
theorem Hb_0 {f : Nat → Int32} {b : Int32} : Hb f 0 b := fun _ k hk => by
  have z : (0 : Int32).toInt = 0 := by decide
  omega
theorem Hb_v {f : Nat → Int32} {m b : Int32} (h : 0 ≤ b.toInt) : Hb f m b := fun q => by omega
theorem Hb_s {f : Nat → Int32} {m m2 b x : Int32} (h : Hb f m b) (hm : 0 ≤ m.toInt ∧ m2.toInt = m.toInt + 1) (e : x = f m.toNatClampNeg) (hx : ¬ x.toInt = 0) : Hb f m2 b := by
  intro q k hk
  have hc := cl_int (x := m) hm.1
  by_cases hk2 : (k : Int) < m.toInt
  · exact h q k hk2
  · have hkm : k = m.toNatClampNeg := by omega
    rw [hkm, ← e]
    intro z
    exact hx (by rw [z]; decide)
theorem Hb_end {f : Nat → Int32} {m b r : Int32} (h : Hb f m b) (ht : Ht f r) (hm : 10 ≤ m.toInt ∧ 0 < r.toInt) (hb : b.toInt = (-1) ∨ (0 ≤ b.toInt ∧ b.toInt ≤ 9)) : 0 ≤ b.toInt ∧ b.toInt ≤ 9 := by
  rcases hb with q | q
  · exfalso
    have c := cntM_all (f := f) (m := 10) (fun k hk => h q k (by omega)) 10 (Nat.le_refl 10)
    unfold Ht at ht
    omega
  · exact q
