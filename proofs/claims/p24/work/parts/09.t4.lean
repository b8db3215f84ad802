/-! the sap of a day, hole by hole and tree by tree -/
def sapF (p : Int32) (fv fn : Nat → Int32) (t : Int32) : Int32 := p * (100 + fv (fn t.toNatClampNeg).toNatClampNeg) / 100
def tpC (ft fy : Nat → Int32) (y t : Int32) (n : Nat) : Int := cntB (fun j => decide (ft j = t ∧ fy j = y)) n
def smF (ft fy : Nat → Int32) (y : Int32) (g : Int32 → Int32) : Nat → Int32
  | 0 => 0
  | n + 1 => smF ft fy y g n + (if fy n = y then g (ft n) else 0)
def gsF (ft fy : Nat → Int32) (y : Int32) (g : Int32 → Int32) (n : Nat) (u : Int32) : Int32 := Int32.ofInt (tpC ft fy y u n) * g u
def srF (ft fy : Nat → Int32) (y : Int32) (g : Int32 → Int32) (n : Nat) : Nat → Int32
  | 0 => 0
  | k + 1 => srF ft fy y g n k + gsF ft fy y g n (Int32.ofNat k)
theorem gv_eq {p : Int32} {fv fn : Nat → Int32} {t rn rv xa xm xd : Int32} (h1 : rn.toInt = (fn t.toNatClampNeg).toInt) (h2 : rv.toInt = (fv rn.toNatClampNeg).toInt) (e1 : xa = 100 + rv) (e2 : xm = p * xa) (e3 : xd = xm / 100) : xd.toInt = (sapF p fv fn t).toInt := by
  have a := Int32.toInt_inj.mp h1
  have b := Int32.toInt_inj.mp h2
  rw [e3, e2, e1, b, a]; rfl
theorem gv_z {fv fn : Nat → Int32} {t : Int32} : sapF 0 fv fn t = 0 := by
  unfold sapF
  rw [Int32.zero_mul]
  decide
theorem tpC_t {ft fy : Nat → Int32} {y t : Int32} {n : Nat} (h : ft n = t) (hy : fy n = y) : tpC ft fy y t (n + 1) = tpC ft fy y t n + 1 := by
  show cntB _ n + (if decide (ft n = t ∧ fy n = y) = true then 1 else 0) = _
  rw [if_pos (decide_eq_true ⟨h, hy⟩)]; rfl
theorem tpC_o {ft fy : Nat → Int32} {y t : Int32} {n : Nat} (h : ¬ (ft n = t ∧ fy n = y)) : tpC ft fy y t (n + 1) = tpC ft fy y t n := by
  show cntB _ n + (if decide (ft n = t ∧ fy n = y) = true then 1 else 0) = _
  rw [if_neg (by rw [decide_eq_true_iff]; exact h)]
  exact Int.add_zero _
theorem tpC_none {ft fy : Nat → Int32} {y t : Int32} : ∀ n : Nat, (∀ k, k < n → ¬ ft k = t) → tpC ft fy y t n = 0 := by
  intro n
  induction n with
  | zero => intro _; rfl
  | succ n ih =>
    intro h
    rw [tpC_o (fun q => h n (by omega) q.1), ih (fun k hk => h k (by omega))]
theorem ofI_s {c : Int} {x : Int32} : Int32.ofInt (c + 1) * x = Int32.ofInt c * x + x := by
  rw [Int32.ofInt_add, Int32.add_mul, show Int32.ofInt 1 = 1 by decide, Int32.one_mul]
theorem cl_inj {t u : Int32} (ht : 0 ≤ t.toInt) (hu : 0 ≤ u.toInt) (h : t.toNatClampNeg = u.toNatClampNeg) : t = u := by
  apply Int32.toInt_inj.mp
  have a := cl_int (x := t) ht
  have b := cl_int (x := u) hu
  omega
/-- a row of which one place got d more -/
def Ga (w f : Nat → Int32) (i d : Int32) : Prop := w = upd f i.toNatClampNeg (f i.toNatClampNeg + d)
theorem Ga_u {w f : Nat → Int32} {i d x l : Int32} (hG : upd f i.toNatClampNeg x = w) (e1 : x = l + d) (e2 : l = f i.toNatClampNeg) : Ga w f i d := by
  unfold Ga; rw [← hG, e1, e2]
theorem Ga_e {w f : Nat → Int32} {i d d2 : Int32} (h : Ga w f i d) (e : d.toInt = d2.toInt) : Ga w f i d2 := by rw [← Int32.toInt_inj.mp e]; exact h
def GvC (w f ft fy : Nat → Int32) (y : Int32) (g : Int32 → Int32) (i : Int32) : Prop := 0 ≤ i.toInt ∧ ∀ t : Int32, 0 ≤ t.toInt → t.toInt < 60 → w t.toNatClampNeg = f t.toNatClampNeg + Int32.ofInt (tpC ft fy y t i.toNatClampNeg) * g t
theorem GvC_0 {f ft fy : Nat → Int32} {y : Int32} {g : Int32 → Int32} : GvC f f ft fy y g 0 := ⟨by decide, fun t _ _ => by
  rw [cl_0', show tpC ft fy y t 0 = 0 from rfl, show Int32.ofInt 0 = 0 by decide, Int32.zero_mul, Int32.add_zero]⟩
theorem GvC_z {f ft fy fv fn : Nat → Int32} {y p i : Int32} (hp : p.toInt = 0) (h : 0 ≤ i.toInt) : GvC f f ft fy y (sapF p fv fn) i := ⟨h, fun t _ _ => by
  rw [show p = 0 from Int32.toInt_inj.mp (by rw [hp]; decide), gv_z, Int32.mul_zero, Int32.add_zero]⟩
theorem GvC_f {w f ft fy : Nat → Int32} {y i i2 : Int32} {g : Int32 → Int32} (h : GvC w f ft fy y g i) (hy : ¬ (fy i.toNatClampNeg).toInt = y.toInt) (hi : i2.toInt = i.toInt + 1) : GvC w f ft fy y g i2 := by
  have h0 := h.1
  refine ⟨by omega, fun t a b => ?_⟩
  rw [cl_s h.1 hi, tpC_o (fun q => hy (by rw [q.2]))]
  exact h.2 t a b
theorem GvC_t {w w2 f ft fy : Nat → Int32} {y i i2 rt d : Int32} {g : Int32 → Int32} (h : GvC w f ft fy y g i) (hy : (fy i.toNatClampNeg).toInt = y.toInt) (ht : rt.toInt = (ft i.toNatClampNeg).toInt) (hr : 0 ≤ rt.toInt ∧ rt.toInt < 60) (a : Ga w2 w rt d) (hd : d.toInt = (g rt).toInt) (hi : i2.toInt = i.toInt + 1) : GvC w2 f ft fy y g i2 := by
  have h0 := h.1
  have et : ft i.toNatClampNeg = rt := (Int32.toInt_inj.mp ht).symm
  have ey : fy i.toNatClampNeg = y := Int32.toInt_inj.mp hy
  have ed : d = g rt := Int32.toInt_inj.mp hd
  refine ⟨by omega, fun t b c => ?_⟩
  rw [cl_s h.1 hi]
  unfold Ga at a
  by_cases q : t = rt
  · rw [q, tpC_t et ey, ofI_s, a, pk_us, h.2 rt hr.1 hr.2, ed, Int32.add_assoc]
  · rw [tpC_o (fun z => q (z.1.symm.trans et)), a, pk_un (fun z => q (cl_inj b hr.1 z))]
    exact h.2 t b c
/-- every hole is in a tree that is there -/
def HtB (ft : Nat → Int32) (n m : Int) : Prop := ∀ k : Nat, (k : Int) < n → 0 ≤ (ft k).toInt ∧ (ft k).toInt < m
theorem HtB_ld {ft : Nat → Int32} {n m : Int} {i x : Int32} (h : HtB ft n m) (hi : 0 ≤ i.toInt ∧ i.toInt < n) (e : x.toInt = (ft i.toNatClampNeg).toInt) : 0 ≤ x.toInt ∧ x.toInt < m := by
  have hc := cl_int (x := i) hi.1
  rw [e]; exact h _ (by omega)
theorem HtB_0 {ft : Nat → Int32} {n m : Int} (h : n ≤ 0) : HtB ft n m := fun k hk => by omega
theorem HtB_le {ft : Nat → Int32} {n m m2 : Int} (h : HtB ft n m) (hm : m ≤ m2) : HtB ft n m2 := fun k hk => ⟨(h k hk).1, by have := (h k hk).2; omega⟩
theorem HtB_Ua {ft w : Nat → Int32} {n v n2 : Int32} {m : Int} (h : HtB ft n.toInt m) (a : Ua w ft n v n2) (hv : 0 ≤ n.toInt ∧ (n2.toInt = n.toInt ∨ (0 ≤ v.toInt ∧ v.toInt < m))) : HtB w n2.toInt m := by
  have hc := cl_int (x := n) hv.1
  rcases a with ⟨a1, a2⟩ | ⟨a1, a2⟩
  · rw [a1, a2]; exact h
  · rw [a2]
    intro k hk
    by_cases q : k = n.toNatClampNeg
    · rw [upd_at q]; omega
    · rw [upd_ne q]; exact h k (by omega)
/-- every tree is at a node that is there -/
def TnB (fn : Nat → Int32) (n m : Int) : Prop := ∀ k : Nat, (k : Int) < n → 1 ≤ (fn k).toInt ∧ (fn k).toInt < m
theorem TnB_ld {fn : Nat → Int32} {n m : Int} {i x : Int32} (h : TnB fn n m) (hi : 0 ≤ i.toInt ∧ i.toInt < n) (e : x.toInt = (fn i.toNatClampNeg).toInt) : 1 ≤ x.toInt ∧ x.toInt < m := by
  have hc := cl_int (x := i) hi.1
  rw [e]; exact h _ (by omega)
theorem TnB_0 {fn : Nat → Int32} {n m : Int} (h : n ≤ 0) : TnB fn n m := fun k hk => by omega
theorem TnB_le {fn : Nat → Int32} {n m m2 : Int} (h : TnB fn n m) (hm : m ≤ m2) : TnB fn n m2 := fun k hk => ⟨(h k hk).1, by have := (h k hk).2; omega⟩
theorem TnB_Ua {fn w : Nat → Int32} {n v n2 : Int32} {m : Int} (h : TnB fn n.toInt m) (a : Ua w fn n v n2) (hv : 0 ≤ n.toInt ∧ (n2.toInt = n.toInt ∨ (1 ≤ v.toInt ∧ v.toInt < m))) : TnB w n2.toInt m := by
  have hc := cl_int (x := n) hv.1
  rcases a with ⟨a1, a2⟩ | ⟨a1, a2⟩
  · rw [a1, a2]; exact h
  · rw [a2]
    intro k hk
    by_cases q : k = n.toNatClampNeg
    · rw [upd_at q]; omega
    · rw [upd_ne q]; exact h k (by omega)
/-- the class's sum -/
def SmC (ft fy : Nat → Int32) (y : Int32) (g : Int32 → Int32) (i j : Int32) : Prop := 0 ≤ i.toInt ∧ j = smF ft fy y g i.toNatClampNeg
theorem SmC_0 {ft fy : Nat → Int32} {y : Int32} {g : Int32 → Int32} : SmC ft fy y g 0 0 := ⟨by decide, rfl⟩
theorem SmC_f {ft fy : Nat → Int32} {y i i2 j : Int32} {g : Int32 → Int32} (h : SmC ft fy y g i j) (hy : ¬ (fy i.toNatClampNeg).toInt = y.toInt) (hi : i2.toInt = i.toInt + 1) : SmC ft fy y g i2 j := by
  have h0 := h.1
  refine ⟨by omega, ?_⟩
  rw [cl_s h.1 hi, h.2]
  show _ = smF ft fy y g i.toNatClampNeg + (if fy i.toNatClampNeg = y then g (ft i.toNatClampNeg) else 0)
  rw [if_neg (fun q => hy (by rw [q])), Int32.add_zero]
theorem SmC_t {ft fy : Nat → Int32} {y i i2 j j2 rt d : Int32} {g : Int32 → Int32} (h : SmC ft fy y g i j) (hy : (fy i.toNatClampNeg).toInt = y.toInt) (ht : rt.toInt = (ft i.toNatClampNeg).toInt) (hd : d.toInt = (g rt).toInt) (e : j2 = j + d) (hi : i2.toInt = i.toInt + 1) : SmC ft fy y g i2 j2 := by
  have h0 := h.1
  refine ⟨by omega, ?_⟩
  rw [cl_s h.1 hi, e, h.2]
  show _ = smF ft fy y g i.toNatClampNeg + (if fy i.toNatClampNeg = y then g (ft i.toNatClampNeg) else 0)
  rw [if_pos (Int32.toInt_inj.mp hy), ← Int32.toInt_inj.mp ht, Int32.toInt_inj.mp hd]
theorem SmC_e {ft fy : Nat → Int32} {y i j n : Int32} {g : Int32 → Int32} (h : SmC ft fy y g i j) (hi : i.toInt = n.toInt) : j.toInt = (smF ft fy y g n.toNatClampNeg).toInt := by rw [h.2, cl_e hi]
theorem smF_z {ft fy fv fn : Nat → Int32} {y p : Int32} (hp : p.toInt = 0) : ∀ n : Nat, (smF ft fy y (sapF p fv fn) n).toInt = 0 := by
  have e : p = 0 := Int32.toInt_inj.mp (by rw [hp]; decide)
  have k : ∀ n : Nat, smF ft fy y (sapF p fv fn) n = 0 := by
    intro n
    induction n with
    | zero => rfl
    | succ n ih =>
      show smF ft fy y (sapF p fv fn) n + (if fy n = y then sapF p fv fn (ft n) else 0) = 0
      rw [ih, e, gv_z]
      split <;> decide
  intro n
  rw [k n]; decide
/-- the reference's trees -/
def GvR (w f ft fy : Nat → Int32) (y : Int32) (g : Int32 → Int32) (n t : Int32) : Prop := 0 ≤ t.toInt ∧ ∀ u : Int32, 0 ≤ u.toInt → u.toInt < 60 → w u.toNatClampNeg = f u.toNatClampNeg + (if u.toInt < t.toInt then gsF ft fy y g n.toNatClampNeg u else 0)
theorem GvR_0 {f ft fy : Nat → Int32} {y n : Int32} {g : Int32 → Int32} : GvR f f ft fy y g n 0 := ⟨by decide, fun u a b => by
  rw [if_neg (by rw [show (0 : Int32).toInt = 0 by decide]; omega), Int32.add_zero]⟩
theorem GvR_t {w w2 f ft fy : Nat → Int32} {y n t t2 d : Int32} {g : Int32 → Int32} (h : GvR w f ft fy y g n t) (hr : t.toInt < 60) (a : Ga w2 w t d) (hd : d.toInt = (gsF ft fy y g n.toNatClampNeg t).toInt) (hi : t2.toInt = t.toInt + 1) : GvR w2 f ft fy y g n t2 := by
  have h0 := h.1
  have ed := Int32.toInt_inj.mp hd
  unfold Ga at a
  refine ⟨by omega, fun u b c => ?_⟩
  by_cases q : u = t
  · rw [q, if_pos (by omega), a, pk_us, h.2 t h0 hr, if_neg (by omega), Int32.add_zero, ed]
  · have q2 : ¬ u.toInt = t.toInt := fun z => q (Int32.toInt_inj.mp z)
    rw [a, pk_un (fun z => q (cl_inj b h0 z)), h.2 u b c]
    by_cases z : u.toInt < t.toInt
    · rw [if_pos z, if_pos (by omega)]
    · rw [if_neg z, if_neg (by omega)]
theorem GvR_e {w f ft fy : Nat → Int32} {y n t m : Int32} {g : Int32 → Int32} (h : GvR w f ft fy y g n t) (ht : t.toInt = m.toInt) (hB : HtB ft n.toInt m.toInt) (hn : 0 ≤ n.toInt) : GvC w f ft fy y g n := by
  have hc := cl_int (x := n) hn
  refine ⟨hn, fun u a b => ?_⟩
  rw [h.2 u a b]
  by_cases z : u.toInt < t.toInt
  · rw [if_pos z]; rfl
  · rw [if_neg z, tpC_none n.toNatClampNeg (fun k hk q => by have := (hB k (by omega)).2; rw [q] at this; omega), show Int32.ofInt 0 = 0 by decide, Int32.zero_mul]
def SmR (ft fy : Nat → Int32) (y : Int32) (g : Int32 → Int32) (n t a : Int32) : Prop := 0 ≤ t.toInt ∧ a = srF ft fy y g n.toNatClampNeg t.toNatClampNeg
theorem SmR_0 {ft fy : Nat → Int32} {y n : Int32} {g : Int32 → Int32} : SmR ft fy y g n 0 0 := ⟨by decide, rfl⟩
theorem ofN_cl {t : Int32} (h : 0 ≤ t.toInt) : Int32.ofNat t.toNatClampNeg = t := by
  apply Int32.toInt_inj.mp
  have hc := cl_int (x := t) h
  have hr := rg_rng t
  rw [Int32.toInt_ofNat_of_lt (by omega)]
  exact hc
theorem SmR_t {ft fy : Nat → Int32} {y n t t2 a a2 d : Int32} {g : Int32 → Int32} (h : SmR ft fy y g n t a) (hd : d.toInt = (gsF ft fy y g n.toNatClampNeg t).toInt) (e : a2 = a + d) (hi : t2.toInt = t.toInt + 1) : SmR ft fy y g n t2 a2 := by
  have h0 := h.1
  refine ⟨by omega, ?_⟩
  rw [cl_s h.1 hi, e, h.2]
  show _ = srF ft fy y g n.toNatClampNeg t.toNatClampNeg + gsF ft fy y g n.toNatClampNeg (Int32.ofNat t.toNatClampNeg)
  rw [ofN_cl h0, Int32.toInt_inj.mp hd]
theorem srF_add {ft fy : Nat → Int32} {y : Int32} {g : Int32 → Int32} {n : Nat} (hT : 0 ≤ (ft n).toInt) : ∀ m : Nat, m ≤ 60 → srF ft fy y g (n + 1) m = srF ft fy y g n m + (if (ft n).toNatClampNeg < m ∧ fy n = y then g (ft n) else 0) := by
  intro m
  induction m with
  | zero =>
    intro _
    rw [if_neg (by omega)]; rfl
  | succ m ih =>
    intro hm
    show srF ft fy y g (n + 1) m + gsF ft fy y g (n + 1) (Int32.ofNat m) = srF ft fy y g n m + gsF ft fy y g n (Int32.ofNat m) + _
    rw [ih (by omega)]
    have cm : (Int32.ofNat m).toInt = (m : Int) := Int32.toInt_ofNat_of_lt (by omega)
    have cT := cl_int (x := ft n) hT
    by_cases q : ft n = Int32.ofNat m
    · have e : (ft n).toNatClampNeg = m := by rw [← q] at cm; omega
      by_cases qy : fy n = y
      · rw [if_neg (by omega), if_pos ⟨by omega, qy⟩]
        unfold gsF
        rw [tpC_t q qy, ofI_s, ← q, Int32.add_zero, Int32.add_assoc]
      · rw [if_neg (fun z => qy z.2), if_neg (fun z => qy z.2)]
        unfold gsF
        rw [tpC_o (fun z => qy z.2), Int32.add_zero, Int32.add_zero]
    · have e : ¬ (ft n).toNatClampNeg = m := fun z => q (Int32.toInt_inj.mp (by rw [cm]; omega))
      have g2 : gsF ft fy y g (n + 1) (Int32.ofNat m) = gsF ft fy y g n (Int32.ofNat m) := by
        unfold gsF
        rw [tpC_o (fun z => q z.1)]
      rw [g2]
      by_cases z : (ft n).toNatClampNeg < m ∧ fy n = y
      · rw [if_pos z, if_pos ⟨by omega, z.2⟩, Int32.add_assoc, Int32.add_assoc, Int32.add_comm (g (ft n))]
      · rw [if_neg z, if_neg (fun w => z ⟨by omega, w.2⟩), Int32.add_zero, Int32.add_zero]
theorem srF_z {ft fy : Nat → Int32} {y : Int32} {g : Int32 → Int32} : ∀ m : Nat, srF ft fy y g 0 m = 0 := by
  intro m
  induction m with
  | zero => rfl
  | succ m ih =>
    show srF ft fy y g 0 m + Int32.ofInt (tpC ft fy y (Int32.ofNat m) 0) * g (Int32.ofNat m) = 0
    rw [ih, show tpC ft fy y (Int32.ofNat m) 0 = 0 from rfl, show Int32.ofInt 0 = 0 by decide, Int32.zero_mul]
    decide
theorem sr_sm {ft fy : Nat → Int32} {y : Int32} {g : Int32 → Int32} {m : Nat} (hm : m ≤ 60) : ∀ n : Nat, (∀ k, k < n → 0 ≤ (ft k).toInt ∧ (ft k).toInt < (m : Int)) → srF ft fy y g n m = smF ft fy y g n := by
  intro n
  induction n with
  | zero => intro _; exact srF_z m
  | succ n ih =>
    intro h
    have hn := h n (by omega)
    have cT := cl_int (x := ft n) hn.1
    rw [srF_add hn.1 m hm, ih (fun k hk => h k (by omega))]
    show _ = smF ft fy y g n + (if fy n = y then g (ft n) else 0)
    by_cases q : fy n = y
    · rw [if_pos ⟨by omega, q⟩, if_pos q]
    · rw [if_neg (fun z => q z.2), if_neg q]
theorem SmR_e {ft fy : Nat → Int32} {y n t m a : Int32} {g : Int32 → Int32} (h : SmR ft fy y g n t a) (ht : t.toInt = m.toInt) (hB : HtB ft n.toInt m.toInt) (hn : 0 ≤ n.toInt ∧ m.toInt ≤ 60) : a.toInt = (smF ft fy y g n.toNatClampNeg).toInt := by
  have h0 := h.1
  have c1 := cl_int (x := n) hn.1
  have c2 := cl_int (x := t) h0
  rw [h.2, sr_sm (by omega) n.toNatClampNeg (fun k hk => by have := hB k (by omega); omega)]
theorem GvC_E {w w2 f e ft fy : Nat → Int32} {y n p q : Int32} {fv fn : Nat → Int32} (a : GvC w f ft fy y (sapF p fv fn) n) (b : GvC w2 e ft fy y (sapF q fv fn) n) (hpq : p.toInt = q.toInt) (h : ∀ k : Nat, k < 60 → f k = e k) : ∀ k : Nat, k < 60 → w k = w2 k := by
  intro k hk
  have cm : (Int32.ofNat k).toInt = (k : Int) := Int32.toInt_ofNat_of_lt (by omega)
  have ck : (Int32.ofNat k).toNatClampNeg = k := cl_n cm
  have x := a.2 (Int32.ofNat k) (by omega) (by omega)
  have z := b.2 (Int32.ofNat k) (by omega) (by omega)
  rw [ck] at x z
  rw [x, z, h k hk, Int32.toInt_inj.mp hpq]
/-- two rows that hold the same at the first N places -/
def Eqn (f e : Nat → Int32) (N : Nat) : Prop := ∀ k : Nat, k < N → f k = e k
theorem Eqn_r {f : Nat → Int32} {N : Nat} : Eqn f f N := fun _ _ => rfl
theorem Eqn_G {w w2 f e ft fy : Nat → Int32} {y n p q : Int32} {fv fn : Nat → Int32} (a : GvC w f ft fy y (sapF p fv fn) n) (b : GvC w2 e ft fy y (sapF q fv fn) n) (hpq : p.toInt = q.toInt) (h : Eqn f e 60) : Eqn w w2 60 := GvC_E a b hpq h
theorem Eqn_ld {f e : Nat → Int32} {N : Nat} {i : Int32} (h : Eqn f e N) (hi : 0 ≤ i.toInt ∧ i.toInt < (N : Int)) : (f i.toNatClampNeg).toInt = (e i.toNatClampNeg).toInt := by rw [h _ (cl_lt hi)]
def hlF (v : Int) : Int := if v < 0 then 0 else if 10 < v then 10 else v
theorem hl_b (v : Int) : 0 ≤ hlF v ∧ hlF v ≤ 10 := by unfold hlF; (repeat' split) <;> omega
def psF (v w : Int) : Int := hlF (-v) * hlF w
def dpF (d f t : Int32) : Int32 := if d.toInt = 0 then f * t else 0
theorem ps_eq {x f t : Int32} {v w : Int} (hf : f.toInt = hlF (-v)) (ht : t.toInt = hlF w) (e : x = f * t) : x.toInt = psF v w ∧ 0 ≤ x.toInt ∧ x.toInt ≤ 100 := by
  have a := hl_b (-v)
  have b := hl_b w
  have m := mul_bd (A := 10) (B := 10) (a := f.toInt) (b := t.toInt) (by omega) (by omega)
  have q := i_mul (x := x) (u := f) (v := t) rfl rfl (by omega) e
  refine ⟨?_, by omega, by omega⟩
  rw [q, hf, ht]; rfl
theorem dp_eq {d f t : Int32} {v w : Int} (hf : f.toInt = hlF (-v)) (ht : t.toInt = hlF w) : (d.toInt = 0 ∧ (dpF d f t).toInt = psF v w) ∨ (¬ d.toInt = 0 ∧ (dpF d f t).toInt = 0) := by
  by_cases q : d.toInt = 0
  · left
    refine ⟨q, ?_⟩
    unfold dpF
    rw [if_pos q]
    exact (ps_eq hf ht rfl).1
  · right
    refine ⟨q, ?_⟩
    unfold dpF
    rw [if_neg q]; decide
theorem dp_0 {d f t : Int32} (h : d.toInt = 0) : dpF d f t = f * t := by unfold dpF; exact if_pos h
theorem dp_1 {d f t : Int32} (h : ¬ d.toInt = 0) : dpF d f t = 0 := by unfold dpF; exact if_neg h
/-- what a tree gives: nothing where it is dry -/
theorem gs_dry {ft fy fv fn : Nat → Int32} {y d f t u : Int32} {n : Nat} (h : ¬ d.toInt = 0) : (gsF ft fy y (sapF (dpF d f t) fv fn) n u).toInt = 0 := by
  unfold gsF
  rw [dp_1 h, gv_z, Int32.mul_zero]; decide
theorem gs_wet {ft fy fv fn : Nat → Int32} {y d f t u r xp xd x rn rv xa xm n : Int32} (h : d.toInt = 0) (hr : r.toInt = cntB (fun k => decide (ft k = u ∧ y.toInt ≤ (fy k).toInt)) n.toNatClampNeg) (hY : Yr fy n y) (ep : xp = f * t) (h1 : rn.toInt = (fn u.toNatClampNeg).toInt) (h2 : rv.toInt = (fv rn.toNatClampNeg).toInt) (e1 : xa = 100 + rv) (e2 : xm = xp * xa) (e3 : xd = xm / 100) (e4 : x = r * xd) : x.toInt = (gsF ft fy y (sapF (dpF d f t) fv fn) n.toNatClampNeg u).toInt := by
  have g := Int32.toInt_inj.mp (gv_eq h1 h2 e1 e2 e3)
  have c : Int32.ofInt (tpC ft fy y u n.toNatClampNeg) = r := by
    unfold tpC
    rw [← cnt_yr hY, ← hr, Int32.ofInt_toInt]
  unfold gsF
  rw [c, dp_0 h, ← ep, ← g, ← e4]
/-- a row of which the place P got d more, where C holds -/
def Uk (w f : Nat → Int32) (P : Nat) (d : Int32) (C : Prop) : Prop := (C ∧ w = upd f P (f P + d)) ∨ (¬ C ∧ w = f)
theorem Uk_f {f : Nat → Int32} {P : Nat} {d : Int32} {C : Prop} (h : ¬ C) : Uk f f P d C := Or.inr ⟨h, rfl⟩
theorem Uk_t {w f : Nat → Int32} {P : Nat} {d x l i : Int32} {C : Prop} (h : C) (hG : upd f i.toNatClampNeg x = w) (e1 : x = l + d) (e2 : l = f i.toNatClampNeg) (hi : i.toInt = (P : Int)) : Uk w f P d C := by
  refine Or.inl ⟨h, ?_⟩
  rw [← hG, e1, e2, cl_n hi]
theorem Uk_c {w f : Nat → Int32} {P : Nat} {d d2 : Int32} {C C2 : Prop} (a : Uk w f P d C) (h : C ↔ C2) (e : d.toInt = d2.toInt) : Uk w f P d2 C2 := by
  rw [← Int32.toInt_inj.mp e]
  rcases a with ⟨a1, a2⟩ | ⟨a1, a2⟩
  · exact Or.inl ⟨h.mp a1, a2⟩
  · exact Or.inr ⟨fun q => a1 (h.mpr q), a2⟩
theorem Eqn_Uk {w z f e : Nat → Int32} {P N : Nat} {d d2 : Int32} {C : Prop} (h : Eqn f e N) (a : Uk w f P d C) (b : Uk z e P d2 C) (hd : d.toInt = d2.toInt) (hP : P < N) : Eqn w z N := by
  rcases a with ⟨a1, a2⟩ | ⟨a1, a2⟩ <;> rcases b with ⟨b1, b2⟩ | ⟨b1, b2⟩
  · rw [a2, b2, h P hP, Int32.toInt_inj.mp hd]
    intro k hk
    unfold upd
    split
    · rfl
    · exact h k hk
  · exact absurd a1 b1
  · exact absurd b1 a1
  · rw [a2, b2]; exact h
def plN (v w : Int) : Nat := (11 * hlF (-v) + hlF w).toNat
theorem pl_i (v w : Int) : ((plN v w : Nat) : Int) = 11 * hlF (-v) + hlF w ∧ plN v w < 121 := by
  have a := hl_b (-v)
  have b := hl_b w
  unfold plN
  omega
theorem GvC_n {w f ft fy : Nat → Int32} {y i n : Int32} {g : Int32 → Int32} (h : GvC w f ft fy y g i) (e : i.toInt = n.toInt) : GvC w f ft fy y g n := by
  rw [← Int32.toInt_inj.mp e]; exact h
def psW (v w : Int) : Int := if v = 0 then w + 1 else 0
def psR (w r : Int) : Int := if 5 ≤ w then 1 else r
def dyV (v w d : Int) : Int := if ((-30) ≤ v ∧ v ≤ 30) ∧ ((-30) ≤ w ∧ w ≤ 40) ∧ v ≤ w ∧ d < 99 then 1 else 0
def thV (c h t : Int) : Int := if c = 0 then t else if 0 < h then 0 else t + 1
def drV (c w r : Int) : Int := if c = 0 then r else if 5 ≤ w then 1 else r
def xpV (c r ps : Int) : Int := if c = 0 then 0 else if r = 0 then ps else 0
def doV (d c : Int) : Int := if ¬ d = 0 ∧ 0 < c then 1 else 0
def trV (v n w a0 a1 a2 a3 a4 a5 a6 : Int) : Int := if 0 ≤ v ∧ v < n then (if w = 0 then a0 else if w = 1 then a1 else if w = 2 then a2 else if w = 3 then a3 else if w = 4 then a4 else if w = 5 then a5 else if w = 6 then a6 else -1) else -1
/-- all sixty hold 0, where C holds -/
def Yz (w f : Nat → Int32) (C : Prop) : Prop := (C ∧ ∀ k : Nat, k < 60 → w k = 0) ∨ (¬ C ∧ w = f)
theorem Yz_t {w f : Nat → Int32} {C : Prop} (h : C) (z : Cs w 60 0) : Yz w f C := Or.inl ⟨h, z⟩
theorem Yz_f {f : Nat → Int32} {C : Prop} (h : ¬ C) : Yz f f C := Or.inr ⟨h, rfl⟩
/-- from n on they hold 0 -/
def Rz (f : Nat → Int32) (n : Int) : Prop := ∀ k : Nat, n ≤ (k : Int) → k < 60 → f k = 0
theorem Rz_0 {n : Int} : Rz (fun _ => 0) n := fun _ _ _ => rfl
theorem Rz_le {f : Nat → Int32} {a b : Int} (h : Rz f a) (hb : a ≤ b) : Rz f b := fun k hk h6 => h k (by omega) h6
theorem Rz_st {f : Nat → Int32} {x i : Int32} {n : Int} (h : Rz f n) (hi : 0 ≤ i.toInt ∧ i.toInt < n) : Rz (upd f (Int32.toNatClampNeg i) x) n := by
  intro k hk h6
  have hc := cl_int (x := i) hi.1
  rw [upd_ne (by omega)]; exact h k hk h6
theorem Rz_G {w f ft fy : Nat → Int32} {y n : Int32} {g : Int32 → Int32} {m m2 : Int} (a : GvC w f ft fy y g n) (b : HtB ft n.toInt m) (h : Rz f m) (hm : m ≤ m2) : Rz w m2 := by
  intro k hk h6
  have cn := cl_int (x := n) a.1
  have cm : (Int32.ofNat k).toInt = (k : Int) := Int32.toInt_ofNat_of_lt (by omega)
  have ck : (Int32.ofNat k).toNatClampNeg = k := cl_n cm
  have x := a.2 (Int32.ofNat k) (by omega) (by omega)
  rw [ck, tpC_none n.toNatClampNeg (fun j hj q => by have := (b j (by omega)).2; rw [q] at this; omega), show Int32.ofInt 0 = 0 by decide, Int32.zero_mul, Int32.add_zero] at x
  rw [x]; exact h k (by omega) h6
theorem Rz_Y {w f : Nat → Int32} {C : Prop} {m : Int} (a : Yz w f C) (h : Rz f m) : Rz w m := by
  rcases a with ⟨_, a2⟩ | ⟨_, a2⟩
  · exact fun k _ h6 => a2 k h6
  · rw [a2]; exact h
theorem Yz_r {w f : Nat → Int32} {C : Prop} {a b : Int} (h : C) (z : Cz w b) (r : Rz w a) (hab : a ≤ b) : Yz w f C := by
  refine Or.inl ⟨h, fun k h6 => ?_⟩
  by_cases q : (k : Int) < b
  · apply Int32.toInt_inj.mp
    rw [z k q]; decide
  · exact r k (by omega) h6
theorem Eqn_Yz {w z f e : Nat → Int32} {C : Prop} (h : Eqn f e 60) (a : Yz w f C) (b : Yz z e C) : Eqn w z 60 := by
  rcases a with ⟨a1, a2⟩ | ⟨a1, a2⟩ <;> rcases b with ⟨b1, b2⟩ | ⟨b1, b2⟩
  · exact fun k hk => (a2 k hk).trans (b2 k hk).symm
  · exact absurd a1 b1
  · exact absurd b1 a1
  · rw [a2, b2]; exact h
theorem Rg_Uk {w f : Nat → Int32} {P N : Nat} {d : Int32} {C : Prop} {lo hi lo2 hi2 : Int} (h : Rg f N lo hi) (a : Uk w f P d C) (hb : (hi ≤ hi2 ∧ 0 ≤ lo2 ∧ hi2 < 2147483648) ∧ (C → 0 ≤ d.toInt ∧ hi + d.toInt ≤ hi2)) (hl : lo2 = lo := by rfl) : Rg w N lo2 hi2 := by
  obtain ⟨⟨h1, h2, h3⟩, h4⟩ := hb
  rcases a with ⟨a1, a2⟩ | ⟨a1, a2⟩
  · have hd := h4 a1
    rw [a2]
    intro k hk
    by_cases q : k = P
    · rw [q]
      rw [q] at hk
      have r := h P hk
      rw [show upd f P (f P + d) P = f P + d from pk_us, i_add (x := f P + d) rfl rfl (by omega) rfl]
      omega
    · rw [show upd f P (f P + d) k = f k from pk_un q]
      have r := h k hk
      omega
  · rw [a2]
    intro k hk
    have r := h k hk
    omega
/-! the greatest common divisor, on both sides -/
def gcI (a b : Int) : Int := ((Nat.gcd a.toNat b.toNat : Nat) : Int)
theorem gc_pos (a b : Int) : b ≤ 0 ∨ 0 < gcI a b := by
  by_cases h : b ≤ 0
  · exact Or.inl h
  · right
    unfold gcI
    have := Nat.gcd_pos_of_pos_right a.toNat (n := b.toNat) (by omega)
    omega
def loV (x s m : Int) : Int := if m = 0 then -1 else x / gcI s m
def foV (v w k up lo : Int) : Int := if (((-30) ≤ v ∧ v ≤ 30) ∧ ((-30) ≤ w ∧ w ≤ 40) ∧ v ≤ w) ∧ (0 ≤ k ∧ k ≤ 1) then (if k = 0 then up else lo) else -1
theorem rem_n {x a b : Int32} (ha : 0 ≤ a.toInt) (hb : 0 < b.toInt) (e : x = a - a / b * b) : x.toInt.toNat = a.toInt.toNat % b.toInt.toNat ∧ 0 ≤ x.toInt := by
  have h := i_irem rfl rfl hb e
  rw [Int.tmod_eq_emod_of_nonneg ha] at h
  have h2 := Int.emod_nonneg a.toInt (b := b.toInt) (by omega)
  refine ⟨?_, by omega⟩
  rw [h]
  exact Int.toNat_emod ha (by omega)
def Gc (p q a b : Int32) : Prop := 0 ≤ a.toInt ∧ 0 ≤ b.toInt ∧ Nat.gcd a.toInt.toNat b.toInt.toNat = Nat.gcd p.toInt.toNat q.toInt.toNat
theorem Gc_0 {p q : Int32} (h : 0 ≤ p.toInt ∧ 0 ≤ q.toInt) : Gc p q p q := ⟨h.1, h.2, rfl⟩
theorem Gc_s {p q a b x : Int32} (h : Gc p q a b) (hb : 0 < b.toInt) (e : x = a - a / b * b) : Gc p q b x := by
  obtain ⟨h1, h2, h3⟩ := h
  have r := rem_n h1 hb e
  refine ⟨h2, r.2, ?_⟩
  rw [r.1, ← h3, Nat.gcd_comm b.toInt.toNat, ← Nat.gcd_rec, Nat.gcd_comm]
theorem Gc_e {p q a b : Int32} (h : Gc p q a b) (hb : b.toInt = 0) : a.toInt = gcI p.toInt q.toInt := by
  obtain ⟨h1, h2, h3⟩ := h
  unfold gcI
  rw [← h3, hb, show (0 : Int).toNat = 0 from rfl, Nat.gcd_zero_right]
  omega
def Gh (a b i : Int32) : Prop := 0 ≤ i.toInt ∧ 0 ≤ a.toInt ∧ 0 ≤ b.toInt ∧ (i.toInt = 0 ∨ (1 ≤ i.toInt ∧ b.toInt < a.toInt ∧ a.toInt.toNat * b.toInt.toNat * 2 ^ (i.toInt.toNat - 1) ≤ 2 ^ 62))
theorem Gh_0 {a b : Int32} (h : 0 ≤ a.toInt ∧ 0 ≤ b.toInt) : Gh a b 0 := ⟨by decide, h.1, h.2, Or.inl (by decide)⟩
theorem Gh_s {a b x i i2 : Int32} (h : Gh a b i) (hb : 0 < b.toInt) (e : x = a - a / b * b) (hi : i2.toInt = i.toInt + 1) : Gh b x i2 := by
  obtain ⟨h0, h1, h2, h3⟩ := h
  have r := rem_n h1 hb e
  have ra := rg_rng a
  have rb := rg_rng b
  have lt : x.toInt.toNat < b.toInt.toNat := by rw [r.1]; exact Nat.mod_lt _ (by omega)
  refine ⟨by omega, h2, r.2, Or.inr ⟨by omega, by omega, ?_⟩⟩
  rcases h3 with h3 | ⟨h3, h4, h5⟩
  · rw [hi, h3]
    have m : b.toInt.toNat * x.toInt.toNat ≤ 2 ^ 31 * 2 ^ 31 := Nat.mul_le_mul (by omega) (by omega)
    show b.toInt.toNat * x.toInt.toNat * 2 ^ 0 ≤ 2 ^ 62
    omega
  · have dm := Nat.div_add_mod a.toInt.toNat b.toInt.toNat
    have q1 : 1 ≤ a.toInt.toNat / b.toInt.toNat := (Nat.one_le_div_iff (by omega)).mpr (by omega)
    have q2 : b.toInt.toNat * 1 ≤ b.toInt.toNat * (a.toInt.toNat / b.toInt.toNat) := Nat.mul_le_mul_left _ q1
    have two : 2 * x.toInt.toNat ≤ a.toInt.toNat := by rw [← r.1] at dm; omega
    have pw : (2 : Nat) ^ (i2.toInt.toNat - 1) = 2 * 2 ^ (i.toInt.toNat - 1) := by
      rw [show i2.toInt.toNat - 1 = (i.toInt.toNat - 1) + 1 by omega, Nat.pow_succ, Nat.mul_comm]
    rw [pw]
    refine Nat.le_trans ?_ h5
    calc b.toInt.toNat * x.toInt.toNat * (2 * 2 ^ (i.toInt.toNat - 1)) = (2 * x.toInt.toNat) * (b.toInt.toNat * 2 ^ (i.toInt.toNat - 1)) := by
          simp only [Nat.mul_assoc, Nat.mul_comm, Nat.mul_left_comm]
      _ ≤ a.toInt.toNat * (b.toInt.toNat * 2 ^ (i.toInt.toNat - 1)) := Nat.mul_le_mul_right _ two
      _ = a.toInt.toNat * b.toInt.toNat * 2 ^ (i.toInt.toNat - 1) := (Nat.mul_assoc _ _ _).symm
theorem Gh_e {a b i : Int32} (h : Gh a b i) (hi : 64 ≤ i.toInt) : b.toInt = 0 := by
  obtain ⟨h0, h1, h2, h3⟩ := h
  rcases h3 with h3 | ⟨h3, h4, h5⟩
  · omega
  · by_cases z : b.toInt = 0
    · exact z
    · exfalso
      have m1 : 1 * 1 ≤ a.toInt.toNat * b.toInt.toNat := Nat.mul_le_mul (by omega) (by omega)
      have m2 : (2 : Nat) ^ 63 ≤ 2 ^ (i.toInt.toNat - 1) := Nat.pow_le_pow_right (by decide) (by omega)
      have m3 : 1 * 2 ^ 63 ≤ a.toInt.toNat * b.toInt.toNat * 2 ^ (i.toInt.toNat - 1) := Nat.mul_le_mul (by omega) m2
      omega
theorem Rg_Eqn {f e : Nat → Int32} {N : Nat} {lo hi : Int} (h : Eqn f e N) (r : Rg e N lo hi) : Rg f N lo hi := fun k hk => by rw [h k hk]; exact r k hk
