/-! the tubes of both sides -/
theorem cl_0' : (0 : Int32).toNatClampNeg = 0 := by decide
/-- the same from 1 on, none at the house -/
def TbT (f e : Nat → Int32) (n : Int) : Prop := f 0 = -1 ∧ ∀ k : Nat, 1 ≤ k → (k : Int) < n → f k = e k
def TbE (f e : Nat → Int32) (n : Int) : Prop := ∀ k : Nat, (k : Int) < n → f k = e k
def RnP (fr et eh : Nat → Int32) (k : Nat) : Prop := (fr (et k).toNatClampNeg).toInt = 1 ∧ (eh (et k).toNatClampNeg).toInt < (eh k).toInt
def TbR (fr et eh : Nat → Int32) (n : Int) : Prop := (fr 0).toInt = 1 ∧ ∀ k : Nat, 1 ≤ k → (k : Int) < n → ((fr k).toInt = 1 ∧ RnP fr et eh k) ∨ ((fr k).toInt = 0 ∧ ¬ RnP fr et eh k)
def VcP (fv et el : Nat → Int32) (k : Nat) : Int := (fv (et k).toNatClampNeg).toInt - (el k).toInt
def TbV (fv et el : Nat → Int32) (v : Int32) (n : Int) : Prop := fv 0 = v ∧ ∀ k : Nat, 1 ≤ k → (k : Int) < n → (0 ≤ VcP fv et el k ∧ (fv k).toInt = VcP fv et el k) ∨ (VcP fv et el k < 0 ∧ (fv k).toInt = 0)
def TbL (fl et el : Nat → Int32) (n : Int) : Prop := (fl 0).toInt = 0 ∧ ∀ k : Nat, 1 ≤ k → (k : Int) < n → (fl k).toInt = (fl (et k).toNatClampNeg).toInt + (el k).toInt
/-- from n on the row holds v -/
def Rst (f : Nat → Int32) (v : Int32) (n : Int) : Prop := ∀ k : Nat, n ≤ (k : Int) → k < 40 → f k = v
theorem Rst_0 {n : Int} : Rst (fun _ => 0) 0 n := fun _ _ _ => rfl
theorem Rst_le {f : Nat → Int32} {v : Int32} {a b : Int} (h : Rst f v a) (hb : a ≤ b) : Rst f v b := fun k hk h4 => h k (by omega) h4
theorem Rst_st {f : Nat → Int32} {v x i : Int32} {n : Int} (h : Rst f v n) (hi : 0 ≤ i.toInt ∧ i.toInt < n) : Rst (upd f (Int32.toNatClampNeg i) x) v n := by
  intro k hk h4
  have hc := cl_int (x := i) hi.1
  unfold upd
  rw [if_neg (by omega)]
  exact h k hk h4
/-- the next node's way: e k is below k -/
theorem Dn_lt {e : Nat → Int32} (h : Dn e) {k : Nat} (h1 : 1 ≤ k) (h4 : k < 40) : (e k).toNatClampNeg < k ∧ 0 ≤ (e k).toInt ∧ (e k).toInt < (k : Int) := by
  have q := h k h4
  have hc := cl_int (x := e k) q.1
  omega
theorem TbT_ld {f e : Nat → Int32} {n : Int} {i x : Int32} (h : TbT f e n) (hi : 1 ≤ i.toInt ∧ i.toInt < n) (ex : x = f i.toNatClampNeg) : x = e i.toNatClampNeg := by
  have hc := cl_int (x := i) (by omega)
  rw [ex]
  exact h.2 _ (by omega) (by omega)
theorem TbT_0 {f e : Nat → Int32} {n : Int} {x i : Int32} (h : TbT f e n) (hi : i.toInt = 0) (ex : x = f i.toNatClampNeg) : x.toInt = -1 := by
  rw [ex, cl_n (n := 0) (by rw [hi]; rfl), h.1]; decide
theorem TbE_ld {f e : Nat → Int32} {n : Int} {i x : Int32} (h : TbE f e n) (hi : 0 ≤ i.toInt ∧ i.toInt < n) (ex : x = f i.toNatClampNeg) : x = e i.toNatClampNeg := by
  have hc := cl_int (x := i) hi.1
  rw [ex]
  exact h _ (by omega)
theorem Tb_one {f e : Nat → Int32} (h : f 0 = -1) : TbT f e 1 := ⟨h, fun k h1 h2 => by omega⟩
/-- one more at the end -/
theorem upd_at {f : Nat → Int32} {i v : Int32} {k : Nat} (h : k = i.toNatClampNeg) : upd f i.toNatClampNeg v k = v := by rw [h]; exact pk_us
theorem upd_ne {f : Nat → Int32} {i v : Int32} {k : Nat} (h : ¬ k = i.toNatClampNeg) : upd f i.toNatClampNeg v k = f k := pk_un h
theorem TbT_Ua {f e w z : Nat → Int32} {n n2 n2' v : Int32} (h : TbT f e n.toInt) (a : Ua w f n v n2) (b : Ua z e n v n2') (hn : 1 ≤ n.toInt ∧ n2.toInt = n2'.toInt) : TbT w z n2.toInt := by
  have hc := cl_int (x := n) (by omega)
  rcases a with ⟨a1, a2⟩ | ⟨a1, a2⟩ <;> rcases b with ⟨b1, b2⟩ | ⟨b1, b2⟩
  · rw [a1, a2, b2]; exact h
  · omega
  · omega
  · rw [a2, b2]
    refine ⟨by rw [upd_ne (by omega)]; exact h.1, fun k h1 h2 => ?_⟩
    by_cases q : k = n.toNatClampNeg
    · rw [upd_at q, upd_at q]
    · rw [upd_ne q, upd_ne q]; exact h.2 k h1 (by omega)
theorem TbE_Ua {f e w : Nat → Int32} {n n2 v : Int32} (h : TbE f e n.toInt) (a : Ua w f n v n2) (r : Rst e v n.toInt) (hn : 0 ≤ n.toInt ∧ n.toInt ≤ 40 ∧ n2.toInt ≤ 40) : TbE w e n2.toInt := by
  have hc := cl_int (x := n) hn.1
  rcases a with ⟨a1, a2⟩ | ⟨a1, a2⟩
  · rw [a1, a2]; exact h
  · rw [a2]
    intro k hk
    by_cases q : k = n.toNatClampNeg
    · rw [upd_at q]; exact (r k (by omega) (by omega)).symm
    · rw [upd_ne q]; exact h k (by omega)
theorem TbR_Ua {fr et eh wr wt wh : Nat → Int32} {n n2 n3 n4 v t g : Int32} (h : TbR fr et eh n.toInt) (hD : Dn et) (a : Ua wr fr n v n2) (b : Ua wt et n t n3) (c : Ua wh eh n g n4) (hn : 1 ≤ n.toInt ∧ n2.toInt = n3.toInt ∧ n2.toInt = n4.toInt ∧ n2.toInt ≤ 40) (ht : n2.toInt = n.toInt ∨ (0 ≤ t.toInt ∧ t.toInt < n.toInt))
    (hv : n2.toInt = n.toInt ∨ (v.toInt = 1 ∧ ((fr t.toNatClampNeg).toInt = 1 ∧ (eh t.toNatClampNeg).toInt < g.toInt)) ∨ (v.toInt = 0 ∧ ¬ ((fr t.toNatClampNeg).toInt = 1 ∧ (eh t.toNatClampNeg).toInt < g.toInt))) : TbR wr wt wh n2.toInt := by
  have hc := cl_int (x := n) (by omega)
  rcases a with ⟨a1, a2⟩ | ⟨a1, a2⟩ <;> rcases b with ⟨b1, b2⟩ | ⟨b1, b2⟩ <;> rcases c with ⟨c1, c2⟩ | ⟨c1, c2⟩
  · rw [a1, a2, b2, c2]; exact h
  · omega
  · omega
  · omega
  · omega
  · omega
  · omega
  · rw [a2, b2, c2]
    have tc := cl_int (x := t) (by omega)
    refine ⟨by rw [upd_ne (by omega)]; exact h.1, fun k h1 h2 => ?_⟩
    by_cases q : k = n.toNatClampNeg
    · unfold RnP
      rw [upd_at q, upd_at q, upd_at q, upd_ne (k := t.toNatClampNeg) (by omega), upd_ne (k := t.toNatClampNeg) (by omega)]
      omega
    · have hd := Dn_lt hD h1 (by omega)
      have p := h.2 k h1 (by omega)
      unfold RnP at p ⊢
      rw [upd_ne q, upd_ne q, upd_ne q, upd_ne (k := (et k).toNatClampNeg) (by omega), upd_ne (k := (et k).toNatClampNeg) (by omega)]
      exact p
theorem TbV_Ua {fv et el wv wt : Nat → Int32} {n n2 n3 v t vc : Int32} (h : TbV fv et el vc n.toInt) (hD : Dn et) (a : Ua wv fv n v n2) (b : Ua wt et n t n3) (r : Rst el 0 n.toInt) (hf : Rg fv 40 0 100) (hn : 1 ≤ n.toInt ∧ n2.toInt = n3.toInt ∧ n2.toInt ≤ 40) (ht : n2.toInt = n.toInt ∨ (0 ≤ t.toInt ∧ t.toInt < n.toInt)) (hv : n2.toInt = n.toInt ∨ v.toInt = (fv t.toNatClampNeg).toInt) : TbV wv wt el vc n2.toInt := by
  have hc := cl_int (x := n) (by omega)
  rcases a with ⟨a1, a2⟩ | ⟨a1, a2⟩ <;> rcases b with ⟨b1, b2⟩ | ⟨b1, b2⟩
  · rw [a1, a2, b2]; exact h
  · omega
  · omega
  · rw [a2, b2]
    have tc := cl_int (x := t) (by omega)
    refine ⟨by rw [upd_ne (by omega)]; exact h.1, fun k h1 h2 => ?_⟩
    by_cases q : k = n.toNatClampNeg
    · have z : (el k).toInt = 0 := by rw [r k (by omega) (by omega)]; decide
      have f0 := hf t.toNatClampNeg (by omega)
      unfold VcP
      rw [upd_at q, upd_at q, upd_ne (k := t.toNatClampNeg) (by omega), z]
      omega
    · have hd := Dn_lt hD h1 (by omega)
      have p := h.2 k h1 (by omega)
      unfold VcP at p ⊢
      rw [upd_ne q, upd_ne q, upd_ne (k := (et k).toNatClampNeg) (by omega)]
      exact p
theorem TbL_Ua {fl et el wl wt we : Nat → Int32} {n n2 n3 n4 v t g : Int32} (h : TbL fl et el n.toInt) (hD : Dn et) (a : Ua wl fl n v n2) (b : Ua wt et n t n3) (c : Ua we el n g n4) (hn : 1 ≤ n.toInt ∧ n2.toInt = n3.toInt ∧ n2.toInt = n4.toInt ∧ n2.toInt ≤ 40) (ht : n2.toInt = n.toInt ∨ (0 ≤ t.toInt ∧ t.toInt < n.toInt)) (hv : n2.toInt = n.toInt ∨ v.toInt = (fl t.toNatClampNeg).toInt + g.toInt) : TbL wl wt we n2.toInt := by
  have hc := cl_int (x := n) (by omega)
  rcases a with ⟨a1, a2⟩ | ⟨a1, a2⟩ <;> rcases b with ⟨b1, b2⟩ | ⟨b1, b2⟩ <;> rcases c with ⟨c1, c2⟩ | ⟨c1, c2⟩
  · rw [a1, a2, b2, c2]; exact h
  · omega
  · omega
  · omega
  · omega
  · omega
  · omega
  · rw [a2, b2, c2]
    have tc := cl_int (x := t) (by omega)
    refine ⟨by rw [upd_ne (by omega)]; exact h.1, fun k h1 h2 => ?_⟩
    by_cases q : k = n.toNatClampNeg
    · rw [upd_at q, upd_at q, upd_at q, upd_ne (k := t.toNatClampNeg) (by omega)]
      omega
    · have hd := Dn_lt hD h1 (by omega)
      have p := h.2 k h1 (by omega)
      rw [upd_ne q, upd_ne q, upd_ne q, upd_ne (k := (et k).toNatClampNeg) (by omega)]
      exact p
/-- settling the vacuum, node by node -/
def V0 (f : Nat → Int32) (v : Int32) : Prop := f 0 = v
theorem V0_st {f : Nat → Int32} {v x i : Int32} (h : V0 f v) (hi : 1 ≤ i.toInt) : V0 (upd f (Int32.toNatClampNeg i) x) v := by
  have hc := cl_int (x := i) (by omega)
  show upd f (Int32.toNatClampNeg i) x 0 = v
  rw [upd_ne (by omega)]; exact h
theorem V0_h {f : Nat → Int32} {v i : Int32} (hi : i.toInt = 0) : V0 (upd f (Int32.toNatClampNeg i) v) v := upd_at (by rw [cl_n (n := 0) (by rw [hi]; rfl)])
theorem TbV_1 {f e l : Nat → Int32} {v : Int32} {n : Int} (h : V0 f v) (hn : n ≤ 1) : TbV f e l v n := ⟨h, fun k h1 h2 => by omega⟩
theorem TbV_le {f e l : Nat → Int32} {v : Int32} {a b : Int} (h : TbV f e l v a) (hb : b ≤ a) : TbV f e l v b := ⟨h.1, fun k h1 h2 => h.2 k h1 (by omega)⟩
theorem TbV_st {f e l : Nat → Int32} {vc i x r y v : Int32} {b : Int} (h : TbV f e l vc i.toInt) (hD : Dn e) (hi : 1 ≤ i.toInt ∧ i.toInt < 40 ∧ b ≤ i.toInt + 1) (e1 : x = e i.toNatClampNeg) (hr : r.toInt = (f x.toNatClampNeg).toInt) (hy : y.toInt = (l i.toNatClampNeg).toInt) (hv : (0 ≤ r.toInt - y.toInt ∧ v.toInt = r.toInt - y.toInt) ∨ (r.toInt - y.toInt < 0 ∧ v.toInt = 0)) : TbV (upd f (Int32.toNatClampNeg i) v) e l vc b := by
  have hc := cl_int (x := i) (by omega)
  refine ⟨by rw [upd_ne (by omega)]; exact h.1, fun k h1 h2 => ?_⟩
  have hd := Dn_lt hD h1 (by omega)
  unfold VcP
  by_cases q : k = i.toNatClampNeg
  · rw [upd_at q, upd_ne (k := (e k).toNatClampNeg) (by omega), q, ← e1, ← hr, ← hy]
    exact hv
  · rw [upd_ne q, upd_ne (k := (e k).toNatClampNeg) (by omega)]
    exact h.2 k h1 (by omega)
/-- the reference's ways home, held against the kept rows -/
def WyV (fv : Nat → Int32) (v k a : Int32) : Prop := 0 ≤ k.toInt ∧ 0 ≤ a.toInt ∧ ((0 ≤ (fv k.toNatClampNeg).toInt - a.toInt ∧ (fv v.toNatClampNeg).toInt = (fv k.toNatClampNeg).toInt - a.toInt) ∨ ((fv k.toNatClampNeg).toInt - a.toInt < 0 ∧ (fv v.toNatClampNeg).toInt = 0))
theorem WyV_0 {fv : Nat → Int32} {v : Int32} (h : 0 ≤ v.toInt ∧ v.toInt < 40) (hf : Rg fv 40 0 100) : WyV fv v v 0 := by
  have z : (0 : Int32).toInt = 0 := by decide
  have hc := cl_int (x := v) h.1
  have q := hf v.toNatClampNeg (by omega)
  refine ⟨h.1, by omega, ?_⟩
  rw [z]
  omega
theorem WyV_st {fv et el : Nat → Int32} {v k a k2 a2 x vc : Int32} {n : Int} (h : WyV fv v k a) (t : TbV fv et el vc n) (hk : 1 ≤ k.toInt ∧ k.toInt < n ∧ 0 ≤ k2.toInt) (e1 : k2 = et k.toNatClampNeg) (hx : 0 ≤ x.toInt ∧ x.toInt = (el k.toNatClampNeg).toInt) (ha : a2.toInt = a.toInt + x.toInt) : WyV fv v k2 a2 := by
  have hc := cl_int (x := k) (by omega)
  have p := t.2 k.toNatClampNeg (by omega) (by omega)
  obtain ⟨g1, g2, g3⟩ := h
  unfold VcP at p
  rw [← e1] at p
  refine ⟨hk.2.2, by omega, ?_⟩
  omega
theorem WyV_end {fv et el : Nat → Int32} {v k a vc : Int32} {n : Int} (h : WyV fv v k a) (t : TbV fv et el vc n) (hk : k.toInt = 0) : (0 ≤ vc.toInt - a.toInt ∧ (fv v.toNatClampNeg).toInt = vc.toInt - a.toInt) ∨ (vc.toInt - a.toInt < 0 ∧ (fv v.toNatClampNeg).toInt = 0) := by
  have e := h.2.2
  rw [cl_n (x := k) (n := 0) (by rw [hk]; rfl), t.1] at e
  exact e
def WyR (fr : Nat → Int32) (v k a : Int32) : Prop := 0 ≤ k.toInt ∧ ((a.toInt = 1 ∧ (fr k.toNatClampNeg).toInt = (fr v.toNatClampNeg).toInt) ∨ (a.toInt = 0 ∧ (fr v.toNatClampNeg).toInt = 0))
theorem WyR_0 {fr : Nat → Int32} {v : Int32} (h : 0 ≤ v.toInt) : WyR fr v v 1 := ⟨h, Or.inl ⟨by decide, rfl⟩⟩
theorem WyR_st {fr et eh : Nat → Int32} {v k a k2 a2 : Int32} {n : Int} (h : WyR fr v k a) (t : TbR fr et eh n) (hk : 1 ≤ k.toInt ∧ k.toInt < n ∧ 0 ≤ k2.toInt) (e1 : k2 = et k.toNatClampNeg) (ha : (a2.toInt = 1 ∧ a.toInt = 1 ∧ (eh k2.toNatClampNeg).toInt < (eh k.toNatClampNeg).toInt) ∨ (a2.toInt = 0 ∧ ¬ (a.toInt = 1 ∧ (eh k2.toNatClampNeg).toInt < (eh k.toNatClampNeg).toInt))) (hb : Rg fr 40 0 1) (h40 : n ≤ 40 ∧ k2.toInt < 40) : WyR fr v k2 a2 := by
  have hc := cl_int (x := k) (by omega)
  have hc2 := cl_int (x := k2) hk.2.2
  have p := t.2 k.toNatClampNeg (by omega) (by omega)
  obtain ⟨g1, g2⟩ := h
  unfold RnP at p
  rw [← e1] at p
  have q := hb k.toNatClampNeg (by omega)
  refine ⟨hk.2.2, ?_⟩
  have q2 := hb k2.toNatClampNeg (by omega)
  omega
theorem WyR_end {fr et eh : Nat → Int32} {v k a : Int32} {n : Int} (h : WyR fr v k a) (t : TbR fr et eh n) (hk : k.toInt = 0) : (fr v.toNatClampNeg).toInt = a.toInt := by
  have e := h.2
  rw [cl_n (x := k) (n := 0) (by rw [hk]; rfl)] at e
  have := t.1
  omega
def WyL (fl : Nat → Int32) (v k a : Int32) : Prop := 0 ≤ k.toInt ∧ (fl v.toNatClampNeg).toInt = (fl k.toNatClampNeg).toInt + a.toInt
theorem WyL_0 {fl : Nat → Int32} {v : Int32} (h : 0 ≤ v.toInt) : WyL fl v v 0 := ⟨h, by rw [show (0 : Int32).toInt = 0 by decide]; omega⟩
theorem WyL_st {fl et el : Nat → Int32} {v k a k2 a2 x : Int32} {n : Int} (h : WyL fl v k a) (t : TbL fl et el n) (hk : 1 ≤ k.toInt ∧ k.toInt < n ∧ 0 ≤ k2.toInt) (e1 : k2 = et k.toNatClampNeg) (hx : x.toInt = (el k.toNatClampNeg).toInt) (ha : a2.toInt = a.toInt + x.toInt) : WyL fl v k2 a2 := by
  have hc := cl_int (x := k) (by omega)
  have p := t.2 k.toNatClampNeg (by omega) (by omega)
  obtain ⟨g1, g2⟩ := h
  rw [← e1] at p
  exact ⟨hk.2.2, by omega⟩
theorem WyL_end {fl et el : Nat → Int32} {v k a : Int32} {n : Int} (h : WyL fl v k a) (t : TbL fl et el n) (hk : k.toInt = 0) : (fl v.toNatClampNeg).toInt = a.toInt := by
  have e := h.2
  rw [cl_n (x := k) (n := 0) (by rw [hk]; rfl)] at e
  have := t.1
  omega

/-- the way home is no longer than 100 a node -/
def Lb (f : Nat → Int32) (n : Int) : Prop := ∀ k : Nat, (k : Int) < n → 0 ≤ (f k).toInt ∧ (f k).toInt ≤ 100 * (k : Int)
theorem Lb_ld {f : Nat → Int32} {n : Int} {i x : Int32} (h : Lb f n) (hi : 0 ≤ i.toInt ∧ i.toInt < n) (e : x = f i.toNatClampNeg) : 0 ≤ x.toInt ∧ x.toInt ≤ 100 * i.toInt := by
  have hc := cl_int (x := i) hi.1
  have q := h i.toNatClampNeg (by omega)
  rw [e]; omega
theorem Lb_Ua {f w : Nat → Int32} {n n2 v : Int32} (h : Lb f n.toInt) (a : Ua w f n v n2) (hv : 0 ≤ n.toInt ∧ (n2.toInt = n.toInt ∨ (0 ≤ v.toInt ∧ v.toInt ≤ 100 * n.toInt))) : Lb w n2.toInt := by
  have hc := cl_int (x := n) hv.1
  rcases a with ⟨a1, a2⟩ | ⟨a1, a2⟩
  · rw [a1, a2]; exact h
  · rw [a2]
    intro k hk
    by_cases q : k = n.toNatClampNeg
    · rw [upd_at q]; omega
    · rw [upd_ne q]; exact h k (by omega)
theorem cl_ne {i n : Int32} (h : 0 ≤ i.toInt ∧ i.toInt < n.toInt) : ¬ i.toNatClampNeg = n.toNatClampNeg := by
  have a := cl_int (x := i) h.1
  have b := cl_int (x := n) (by omega)
  omega

/-- a row of which one place was set, where C holds -/
def Uc (w f : Nat → Int32) (i v : Int32) (C : Prop) : Prop := (C ∧ w = upd f i.toNatClampNeg v) ∨ (¬ C ∧ w = f)
theorem Uc_t {w f : Nat → Int32} {i v : Int32} {C : Prop} (h : C) (e : upd f i.toNatClampNeg v = w) : Uc w f i v C := Or.inl ⟨h, e.symm⟩
theorem Uc_f {f : Nat → Int32} {i v : Int32} {C : Prop} (h : ¬ C) : Uc f f i v C := Or.inr ⟨h, rfl⟩
theorem Uc_eq {w z f : Nat → Int32} {i v : Int32} {C : Prop} (a : Uc w f i v C) (b : Uc z f i v C) : w = z := by
  rcases a with ⟨a1, a2⟩ | ⟨a1, a2⟩ <;> rcases b with ⟨b1, b2⟩ | ⟨b1, b2⟩
  · rw [a2, b2]
  · exact absurd a1 b1
  · exact absurd b1 a1
  · rw [a2, b2]
theorem TbE_Uc {f e w z : Nat → Int32} {n : Int} {i v : Int32} {C : Prop} (h : TbE f e n) (a : Uc w f i v C) (b : Uc z e i v C) : TbE w z n := by
  rcases a with ⟨a1, a2⟩ | ⟨a1, a2⟩ <;> rcases b with ⟨b1, b2⟩ | ⟨b1, b2⟩
  · rw [a2, b2]
    intro k hk
    by_cases q : k = i.toNatClampNeg
    · rw [upd_at q, upd_at q]
    · rw [upd_ne q, upd_ne q]; exact h k hk
  · exact absurd a1 b1
  · exact absurd b1 a1
  · rw [a2, b2]; exact h
theorem Rst_Uc {f w : Nat → Int32} {v x i : Int32} {n : Int} {C : Prop} (h : Rst f v n) (a : Uc w f i x C) (hi : C → 0 ≤ i.toInt ∧ i.toInt < n) : Rst w v n := by
  rcases a with ⟨a1, a2⟩ | ⟨a1, a2⟩
  · rw [a2]; exact Rst_st h (hi a1)
  · rw [a2]; exact h

theorem V0_ld {f : Nat → Int32} {v x : Int32} (h : V0 f v) (e : x = f (Int32.toNatClampNeg 0)) : x.toInt = v.toInt := by
  rw [e, cl_0']
  exact congrArg Int32.toInt h
/-- the nearest reading ahead, or the house's vacuum -/
def raF (et er : Nat → Int32) (v : Int) : Nat → Nat → Int
  | 0, _ => v
  | n + 1, k => if k = 0 then v else if (er k).toInt = -1 then raF et er v n (et k).toNatClampNeg else (er k).toInt
def raV (et er : Nat → Int32) (v : Int) (k : Nat) : Int := raF et er v 40 k
theorem raF_up {et er : Nat → Int32} {v : Int} (hD : Dn et) : ∀ n k : Nat, k ≤ n → k < 40 → raF et er v n k = raF et er v (n + 1) k := by
  intro n
  induction n with
  | zero =>
    intro k hk h4
    have : k = 0 := by omega
    rw [this]
    show v = if (0 : Nat) = 0 then v else _
    rw [if_pos rfl]
  | succ n ih =>
    intro k hk h4
    show (if k = 0 then v else if (er k).toInt = -1 then raF et er v n (et k).toNatClampNeg else (er k).toInt) = (if k = 0 then v else if (er k).toInt = -1 then raF et er v (n + 1) (et k).toNatClampNeg else (er k).toInt)
    by_cases z : k = 0
    · rw [if_pos z, if_pos z]
    · rw [if_neg z, if_neg z]
      have hd := Dn_lt hD (k := k) (by omega) h4
      rw [ih (et k).toNatClampNeg (by omega) (by omega)]
theorem raV_0 {et er : Nat → Int32} {v : Int} : raV et er v 0 = v := by
  unfold raV raF
  exact if_pos rfl
theorem raV_r {et er : Nat → Int32} {v : Int} {k : Nat} (h1 : 1 ≤ k) (hr : ¬ (er k).toInt = -1) : raV et er v k = (er k).toInt := by
  show (if k = 0 then v else if (er k).toInt = -1 then raF et er v 39 (et k).toNatClampNeg else (er k).toInt) = _
  rw [if_neg (by omega), if_neg hr]
theorem raV_s {et er : Nat → Int32} {v : Int} {k : Nat} (hD : Dn et) (h1 : 1 ≤ k) (h4 : k < 40) (hr : (er k).toInt = -1) : raV et er v k = raV et er v (et k).toNatClampNeg := by
  have hd := Dn_lt hD h1 h4
  show (if k = 0 then v else if (er k).toInt = -1 then raF et er v 39 (et k).toNatClampNeg else (er k).toInt) = _
  rw [if_neg (by omega), if_pos hr]
  exact raF_up hD 39 _ (by omega) (by omega)
def raN (et er : Nat → Int32) (vc v1 : Int32) : Int := raV et er vc.toInt (et v1.toNatClampNeg).toNatClampNeg
def WyS (et er : Nat → Int32) (vc v1 k : Int32) : Prop := 0 ≤ k.toInt ∧ raN et er vc v1 = raV et er vc.toInt k.toNatClampNeg
theorem WyS_0 {et er : Nat → Int32} {vc v1 k : Int32} (e : k = et v1.toNatClampNeg) (h : 0 ≤ k.toInt) : WyS et er vc v1 k := ⟨h, by rw [e]; rfl⟩
theorem WyS_st {et er : Nat → Int32} {vc v1 k k2 : Int32} (h : WyS et er vc v1 k) (hD : Dn et) (hk : 1 ≤ k.toInt ∧ k.toInt < 40) (hr : (er k.toNatClampNeg).toInt = -1) (e : k2 = et k.toNatClampNeg) (h2 : 0 ≤ k2.toInt) : WyS et er vc v1 k2 := by
  have hc := cl_int (x := k) (by omega)
  refine ⟨h2, ?_⟩
  rw [h.2, e]
  exact raV_s hD (by omega) (by omega) hr
theorem WyS_r {et er : Nat → Int32} {vc v1 k : Int32} (h : WyS et er vc v1 k) (hk : 1 ≤ k.toInt ∧ k.toInt < 40) (hr : ¬ (er k.toNatClampNeg).toInt = -1) : raN et er vc v1 = (er k.toNatClampNeg).toInt := by
  have hc := cl_int (x := k) (by omega)
  rw [h.2]
  exact raV_r (by omega) hr
theorem WyS_e {et er : Nat → Int32} {vc v1 k : Int32} (h : WyS et er vc v1 k) (hk : k.toInt = 0) : raN et er vc v1 = vc.toInt := by
  rw [h.2, cl_n (x := k) (n := 0) (by rw [hk]; rfl)]
  exact raV_0
theorem TbV_v {f e l : Nat → Int32} {v v' : Int32} {n : Int} (h : TbV f e l v n) (hv : v.toInt = v'.toInt) : TbV f e l v' n := by
  rw [← Int32.toInt_inj.mp hv]; exact h
theorem TbR_1 {f e l : Nat → Int32} {n : Int} (h : V0 f 1) (hn : n ≤ 1) : TbR f e l n := ⟨by rw [show f 0 = 1 from h]; decide, fun k h1 h2 => by omega⟩
theorem TbL_1 {e l : Nat → Int32} {n : Int} (hn : n ≤ 1) : TbL (fun _ => 0) e l n := ⟨by decide, fun k h1 h2 => by omega⟩
theorem TbT_1 {f e : Nat → Int32} {n : Int} (h : V0 f (-1)) (hn : n ≤ 1) : TbT f e n := ⟨h, fun k h1 h2 => by omega⟩
theorem TbE_1 {f e : Nat → Int32} {n : Int} {v : Int32} (h : V0 f v) (r : Rst e v 0) (hn : n ≤ 1) : TbE f e n := fun k hk => by
  have : k = 0 := by omega
  rw [this, show f 0 = v from h]
  exact (r 0 (by omega) (by omega)).symm
theorem Lb_1 {n : Int} (hn : n ≤ 1) : Lb (fun _ => 0) n := fun k hk => by
  have z : (0 : Int32).toInt = 0 := by decide
  show 0 ≤ (0 : Int32).toInt ∧ (0 : Int32).toInt ≤ 100 * (k : Int)
  omega
theorem V0_Ua {w f : Nat → Int32} {n v n2 x : Int32} (h : V0 f x) (a : Ua w f n v n2) (hn : 1 ≤ n.toInt) : V0 w x := by
  have hc := cl_int (x := n) (by omega)
  rcases a with ⟨_, a2⟩ | ⟨_, a2⟩
  · rw [a2]; exact h
  · rw [a2]
    show upd f n.toNatClampNeg v 0 = x
    rw [upd_ne (by omega)]; exact h
theorem TbV_0 {f e l : Nat → Int32} {v : Int32} {n : Int} (h : TbV f e l v n) : V0 f v := h.1

def suV (v e rn : Int) : Int := if v = 0 then 0 else if e = -1 then 0 else if 0 ≤ rn - e then rn - e else 0
def teV (w a0 a1 a2 a3 a4 a5 a7 a8 : Int) : Int := if w = 0 then a0 else if w = 1 then a1 else if w = 2 then a2 else if w = 3 then a3 else if w = 4 then a4 else if w = 5 then a5 else if w = 7 then a7 else if w = 8 then a8 else -1
def ndV (v n w t c : Int) : Int := if 0 ≤ v ∧ v < n then (if w = 6 then c else t) else -1
theorem TbT_z {f e : Nat → Int32} {n : Int} {i : Int32} (h : TbT f e n) (hi : i.toInt = 0) : (f i.toNatClampNeg).toInt = -1 := TbT_0 h hi rfl
theorem TbT_n {f e : Nat → Int32} {n : Int} {i : Int32} (h : TbT f e n) (hi : 1 ≤ i.toInt ∧ i.toInt < n) : (f i.toNatClampNeg).toInt = (e i.toNatClampNeg).toInt := by rw [← TbT_ld h hi rfl]

def Fl (f : Nat → Int32) (v : Int32) (n : Int) : Prop := ∀ k : Nat, (k : Int) < n → f k = v
theorem Fl_0 {f : Nat → Int32} {v : Int32} {n : Int} (h : n ≤ 0) : Fl f v n := fun k hk => by omega
theorem Fl_st {f : Nat → Int32} {v i : Int32} {a b : Int} (h : Fl f v a) (ha : i.toInt = a) (hb : 0 ≤ a ∧ b ≤ a + 1) : Fl (upd f (Int32.toNatClampNeg i) v) v b := by
  intro k hk
  have hc := cl_int (x := i) (by omega)
  by_cases q : k = i.toNatClampNeg
  · exact upd_at q
  · rw [upd_ne q]; exact h k (by omega)
theorem Fl_le {f : Nat → Int32} {v : Int32} {a b : Int} (h : Fl f v a) (hb : b ≤ a) : Fl f v b := fun k hk => h k (by omega)
theorem Rst_Fl {f : Nat → Int32} {v : Int32} {a : Int} (h : Fl f v 40) : Rst f v a := fun k _ h4 => h k (by omega)
theorem Rg_Fl {f : Nat → Int32} {v : Int32} {lo hi : Int} (h : Fl f v 40) (hv : lo ≤ v.toInt ∧ v.toInt ≤ hi) : Rg f 40 lo hi := fun k hk => by rw [h k (by omega)]; exact hv
theorem V0_hb {f : Nat → Int32} : V0 (upd f (Int32.toNatClampNeg 0) (vp_nar .boolean 1)) 1 := by
  show upd f (Int32.toNatClampNeg 0) (vp_nar .boolean 1) 0 = 1
  rw [upd_at (by decide)]; decide
theorem Uc_c {w f : Nat → Int32} {i v : Int32} {C C2 : Prop} (a : Uc w f i v C) (h : C ↔ C2) : Uc w f i v C2 := by
  rcases a with ⟨a1, a2⟩ | ⟨a1, a2⟩
  · exact Or.inl ⟨h.mp a1, a2⟩
  · exact Or.inr ⟨fun q => a1 (h.mpr q), a2⟩
theorem Rg_Ua {f w : Nat → Int32} {n v n2 : Int32} {N : Nat} {lo hi : Int} (h : Rg f N lo hi) (a : Ua w f n v n2) (hv : lo ≤ v.toInt ∧ v.toInt ≤ hi) : Rg w N lo hi := by
  rcases a with ⟨_, a2⟩ | ⟨_, a2⟩
  · rw [a2]; exact h
  · rw [a2]; exact Rg_st h rfl hv
theorem Rg_Uc {f w : Nat → Int32} {i v : Int32} {C : Prop} {N : Nat} {lo hi : Int} (h : Rg f N lo hi) (a : Uc w f i v C) (hv : C → lo ≤ v.toInt ∧ v.toInt ≤ hi) : Rg w N lo hi := by
  rcases a with ⟨a1, a2⟩ | ⟨_, a2⟩
  · rw [a2]; exact Rg_st h rfl (hv a1)
  · rw [a2]; exact h
