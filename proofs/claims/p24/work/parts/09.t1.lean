/-! the reference's walk: joins, bounded products, the way home -/
section JN
variable {p : Program} {l : Launch} {e : Env} {R : Room} {s : State} {m : MethodId} {args : Array Value} {below : List Frame} {meth : Method} {c : Code} {H : Heap} {locs : List Loc} {cells slots : Nat} {Q : State → Prop}
theorem w_join {g : JFrame} (K : (Heap → List Loc → JFrame → Prop) → Prop) (k : K (fun H' locs' g' => W p l e R s m args below meth c H' locs' cells slots Q g')) (h : K (fun H' locs' g' => W p l e R s m args below meth c H' locs' cells slots Q g') → W p l e R s m args below meth c H locs cells slots Q g) : W p l e R s m args below meth c H locs cells slots Q g := h k
end JN
theorem i_neg {x u : Int32} {a : Int} (ha : u.toInt = a) (h : -2147483648 < a) (e : x = -u) : x.toInt = - a := by
  have hr := rg_rng u
  rw [e, Int32.toInt_neg, ha]
  exact rg_bm (by omega) (by omega)
theorem mul_bd {a b A B : Int} (ha : 0 ≤ a ∧ a ≤ A) (hb : 0 ≤ b ∧ b ≤ B) : 0 ≤ a * b ∧ a * b ≤ A * B := ⟨Int.mul_nonneg ha.1 hb.1, Int.le_trans (Int.mul_le_mul_of_nonneg_right ha.2 hb.1) (Int.mul_le_mul_of_nonneg_left hb.2 (Int.le_trans ha.1 ha.2))⟩
theorem i_mulb {x u v : Int32} {a b A B M : Int} (ha : u.toInt = a) (hb : v.toInt = b) (h : (0 ≤ a ∧ a ≤ A) ∧ (0 ≤ b ∧ b ≤ B)) (hM : A * B = M) (hl : M < 2147483648) (e : x = u * v) : 0 ≤ x.toInt ∧ x.toInt ≤ M := by
  have q := mul_bd h.1 h.2
  rw [hM] at q
  rw [i_mul ha hb ⟨by omega, by omega⟩ e]
  exact q
theorem i_div {x u v : Int32} {a b : Int} (ha : u.toInt = a) (hb : v.toInt = b) (h : 0 ≤ a ∧ 0 < b) (e : x = u / v) : x.toInt = a / b := by
  have hr := rg_rng u
  rw [e, Int32.toInt_div, ha, hb, Int.tdiv_eq_ediv_of_nonneg h.1]
  have h1 : 0 ≤ a / b := Int.ediv_nonneg h.1 (by omega)
  have h2 : a / b ≤ a := Int.ediv_le_self _ h.1
  exact rg_bm (by omega) (by omega)
theorem i_irem {x u v : Int32} {a b : Int} (ha : u.toInt = a) (hb : v.toInt = b) (h : 0 < b) (e : x = u - u / v * v) : x.toInt = a.tmod b := by
  have hr := rg_rng u
  have hv := rg_rng v
  rw [ha] at hr
  rw [hb] at hv
  have key : ∃ q : Int, a.tdiv b = q ∧ (-2147483648 ≤ q ∧ q < 2147483648) ∧ (-2147483648 ≤ q * b ∧ q * b < 2147483648) := by
    by_cases h0 : 0 ≤ a
    · refine ⟨a / b, Int.tdiv_eq_ediv_of_nonneg h0, ?_, ?_⟩
      · have h1 : 0 ≤ a / b := Int.ediv_nonneg h0 (by omega)
        have h2 : a / b ≤ a := Int.ediv_le_self _ h0
        omega
      · have h1 : 0 ≤ a / b := Int.ediv_nonneg h0 (by omega)
        have h3 : 0 ≤ a / b * b := Int.mul_nonneg h1 (by omega)
        have h4 : a / b * b ≤ a := Int.ediv_mul_le a (by omega)
        omega
    · refine ⟨-((-a) / b), ?_, ?_, ?_⟩
      · have h1 : (-a).tdiv b = (-a) / b := Int.tdiv_eq_ediv_of_nonneg (by omega)
        rw [Int.neg_tdiv] at h1
        omega
      · have h1 : 0 ≤ (-a) / b := Int.ediv_nonneg (by omega) (by omega)
        have h2 : (-a) / b ≤ -a := Int.ediv_le_self _ (by omega)
        omega
      · have h1 : 0 ≤ (-a) / b := Int.ediv_nonneg (by omega) (by omega)
        have h3 : 0 ≤ (-a) / b * b := Int.mul_nonneg h1 (by omega)
        have h4 : (-a) / b * b ≤ -a := Int.ediv_mul_le (-a) (by omega)
        rw [Int.neg_mul]
        omega
  obtain ⟨q, hq, hq1, hq2⟩ := key
  have e1 : (u / v).toInt = q := by
    rw [Int32.toInt_div, ha, hb, hq]
    exact rg_bm hq1.1 hq1.2
  have e2 : (u / v * v).toInt = q * b := i_mul e1 hb hq2 rfl
  have em : a.tmod b = a - q * b := by rw [Int.tmod_def, hq, Int.mul_comm]
  have em1 : a.tmod b < b := Int.tmod_lt_of_pos a h
  have em2 : -b < a.tmod b := Int.lt_tmod_of_pos a h
  rw [em] at em1 em2 ⊢
  exact i_sub ha e2 (by omega) e
theorem i_rem {x u v : Int32} {a b : Int} (ha : u.toInt = a) (hb : v.toInt = b) (h : 0 ≤ a ∧ 0 < b) (e : x = u - u / v * v) : 0 ≤ x.toInt ∧ x.toInt < b := by
  rw [i_irem ha hb h.2 e, Int.tmod_eq_emod_of_nonneg h.1]
  exact ⟨Int.emod_nonneg _ (by omega), Int.emod_lt_of_pos _ h.2⟩
theorem i_rem2 {x u v : Int32} {a b : Int} (ha : u.toInt = a) (hb : v.toInt = b) (h : 0 < b) (e : x = u - u / v * v) : x.toInt < b := by
  rw [i_irem ha hb h e]
  exact Int.tmod_lt_of_pos a h
theorem l_mne {n : Int32} {y q : Int64} (e1 : y = 1000 * q) (e0 : q = n.toInt64) (h : ¬ n.toInt = 0) : ¬ y = 0 := by
  intro z
  apply h
  have hr := rg_rng n
  have h2 : q.toInt = n.toInt := by rw [e0]; simp
  have h3 : y.toInt = 1000 * n.toInt := by
    rw [e1, Int64.toInt_mul, h2]
    have h4 : (1000 : Int64).toInt = 1000 := by decide
    rw [h4]
    apply Int.bmod_eq_of_le <;> omega
  rw [z] at h3
  have h5 : (0 : Int64).toInt = 0 := by decide
  omega
/-- the way home: every node runs to one with a lesser number -/
def Dn (f : Nat → Int32) : Prop := ∀ k : Nat, k < 40 → 0 ≤ (f k).toInt ∧ ((f k).toInt < (k : Int) ∨ (f k).toInt = 0)
theorem cl_int {x : Int32} (h : 0 ≤ x.toInt) : ((x.toNatClampNeg : Nat) : Int) = x.toInt := by
  show ((x.toInt.toNat : Nat) : Int) = x.toInt
  omega
theorem Dn_ld {f : Nat → Int32} {i x : Int32} {a : Int} (h : Dn f) (ha : i.toInt = a) (hi : 0 ≤ a ∧ a < 40) (e : x = f i.toNatClampNeg) : 0 ≤ x.toInt ∧ (x.toInt < a ∨ x.toInt = 0) := by
  have hc := cl_int (x := i) (by omega)
  have q := h i.toNatClampNeg (by omega)
  rw [e]
  omega
theorem Dn_st {f : Nat → Int32} {i v : Int32} {a b : Int} (h : Dn f) (ha : i.toInt = a) (hb : v.toInt = b) (hv : 0 ≤ a ∧ 0 ≤ b ∧ b < a) : Dn (upd f (Int32.toNatClampNeg i) v) := by
  intro k hk
  have hc := cl_int (x := i) (by omega)
  unfold upd
  split
  · rename_i q
    rw [hb]
    omega
  · exact h k hk
theorem Dn_0 : Dn (fun _ => 0) := fun _ _ => ⟨(by decide : (0 : Int) ≤ (0 : Int32).toInt), Or.inr (by decide : (0 : Int32).toInt = 0)⟩
/-- the places below i hold 0 -/
def Cz (f : Nat → Int32) (i : Int) : Prop := ∀ k : Nat, (k : Int) < i → (f k).toInt = 0
theorem Cz_0 {f : Nat → Int32} {i : Int} (h : i ≤ 0) : Cz f i := fun k hk => by omega
theorem Cz_st {f : Nat → Int32} {i v : Int32} {a b : Int} (h : Cz f a) (ha : i.toInt = a) (hv : v.toInt = 0) (h0 : 0 ≤ a ∧ b ≤ a + 1) : Cz (upd f (Int32.toNatClampNeg i) v) b := by
  intro k hk
  have hc := cl_int (x := i) (by omega)
  unfold upd
  split
  · exact hv
  · rename_i q
    exact h k (by omega)
theorem Cz_le {f : Nat → Int32} {a b : Int} (h : Cz f a) (hb : b ≤ a) : Cz f b := fun k hk => h k (by omega)
theorem Rg_Cz {f : Nat → Int32} {N : Nat} {a lo hi : Int} (h : Cz f a) (hN : (N : Int) ≤ a) (hv : lo ≤ 0 ∧ 0 ≤ hi) : Rg f N lo hi := fun k hk => by
  rw [h k (by omega)]
  exact hv
theorem nar_b {a : Int32} (h : a.toInt = 0 ∨ a.toInt = 1) : narrow .boolean (.int a) = .int a := by
  rcases h with h | h
  · have e : a = 0 := Int32.toInt_inj.mp (by rw [h]; decide)
    rw [e]; rfl
  · have e : a = 1 := Int32.toInt_inj.mp (by rw [h]; decide)
    rw [e]; rfl
