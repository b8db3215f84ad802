theorem lg_X10_add_0 (n_tb : Int32) (v1 : Int32) (yb : 1 ≤ n_tb.toInt ∧ n_tb.toInt ≤ 40) (yv : 0 ≤ v1.toInt ∧ v1.toInt < n_tb.toInt) (t_2 : (40 : Int) ≤ n_tb.toInt) : (n_tb.toInt < 40 ∧ n_tb.toInt = n_tb.toInt + 1) ∨ (n_tb.toInt = 40 ∧ n_tb.toInt = n_tb.toInt) := by
  have := rg_rng n_tb; have := rg_rng v1; omega
theorem lg_X10_add_1 (n_tb : Int32) (v1 : Int32) (yb : 1 ≤ n_tb.toInt ∧ n_tb.toInt ≤ 40) (yv : 0 ≤ v1.toInt ∧ v1.toInt < n_tb.toInt) (t_2 : (40 : Int) ≤ n_tb.toInt) : (n_tb.toInt < 40 ∧ (-1 : Int) = n_tb.toInt) ∨ (n_tb.toInt = 40 ∧ (-1 : Int) = (-1)) := by
  have := rg_rng n_tb; have := rg_rng v1; omega
theorem lg_X10_add_2 (n_tb : Int32) (v1 : Int32) (yb : 1 ≤ n_tb.toInt ∧ n_tb.toInt ≤ 40) (yv : 0 ≤ v1.toInt ∧ v1.toInt < n_tb.toInt) (t_2 : n_tb.toInt < (40 : Int)) (h_4 : 0 ≤ v1.toInt ∧ v1.toInt < n_tb.toInt) : -2147483648 ≤ n_tb.toInt + (1 : Int) ∧ n_tb.toInt + (1 : Int) < 2147483648 := by
  have := rg_rng n_tb; have := rg_rng v1; omega
theorem lg_X10_add_3 (n_tb : Int32) (v1 : Int32) (x_6 : Int32) (yb : 1 ≤ n_tb.toInt ∧ n_tb.toInt ≤ 40) (yv : 0 ≤ v1.toInt ∧ v1.toInt < n_tb.toInt) (t_2 : n_tb.toInt < (40 : Int)) (h_4 : 0 ≤ v1.toInt ∧ v1.toInt < n_tb.toInt) (t_8 : x_6.toInt = n_tb.toInt + (1 : Int)) : 0 ≤ n_tb.toInt ∧ n_tb.toInt < ((40 : Nat) : Int) := by
  have := rg_rng n_tb; have := rg_rng v1; have := rg_rng x_6; omega
theorem lg_X10_add_4 (n_tb : Int32) (v1 : Int32) (x_6 : Int32) (yb : 1 ≤ n_tb.toInt ∧ n_tb.toInt ≤ 40) (yv : 0 ≤ v1.toInt ∧ v1.toInt < n_tb.toInt) (t_2 : n_tb.toInt < (40 : Int)) (h_4 : 0 ≤ v1.toInt ∧ v1.toInt < n_tb.toInt) (t_8 : x_6.toInt = n_tb.toInt + (1 : Int)) : 0 ≤ v1.toInt ∧ v1.toInt < ((40 : Nat) : Int) := by
  have := rg_rng n_tb; have := rg_rng v1; have := rg_rng x_6; omega
theorem lg_X10_add_5 (n_tb : Int32) (v1 : Int32) (x_6 : Int32) (x_18 : Int32) (yb : 1 ≤ n_tb.toInt ∧ n_tb.toInt ≤ 40) (yv : 0 ≤ v1.toInt ∧ v1.toInt < n_tb.toInt) (t_2 : n_tb.toInt < (40 : Int)) (h_4 : 0 ≤ v1.toInt ∧ v1.toInt < n_tb.toInt) (t_8 : x_6.toInt = n_tb.toInt + (1 : Int)) (t_21 : x_18.toInt = (0 : Int)) : 0 ≤ n_tb.toInt ∧ n_tb.toInt < ((40 : Nat) : Int) := by
  have := rg_rng n_tb; have := rg_rng v1; have := rg_rng x_6; have := rg_rng x_18; omega
theorem lg_X10_add_6 (n_tb : Int32) (v1 : Int32) (x_6 : Int32) (x_18 : Int32) (yb : 1 ≤ n_tb.toInt ∧ n_tb.toInt ≤ 40) (yv : 0 ≤ v1.toInt ∧ v1.toInt < n_tb.toInt) (t_2 : n_tb.toInt < (40 : Int)) (h_4 : 0 ≤ v1.toInt ∧ v1.toInt < n_tb.toInt) (t_8 : x_6.toInt = n_tb.toInt + (1 : Int)) (t_21 : x_18.toInt = (0 : Int)) : 0 ≤ v1.toInt ∧ v1.toInt < ((40 : Nat) : Int) := by
  have := rg_rng n_tb; have := rg_rng v1; have := rg_rng x_6; have := rg_rng x_18; omega
theorem lg_X10_add_7 (n_tb : Int32) (v1 : Int32) (x_6 : Int32) (x_18 : Int32) (x_23 : Int32) (yb : 1 ≤ n_tb.toInt ∧ n_tb.toInt ≤ 40) (yv : 0 ≤ v1.toInt ∧ v1.toInt < n_tb.toInt) (t_2 : n_tb.toInt < (40 : Int)) (h_4 : 0 ≤ v1.toInt ∧ v1.toInt < n_tb.toInt) (t_8 : x_6.toInt = n_tb.toInt + (1 : Int)) (t_21 : x_18.toInt = (0 : Int)) (t_25 : 0 ≤ x_23.toInt ∧ x_23.toInt ≤ 100) : 0 ≤ n_tb.toInt ∧ n_tb.toInt < ((40 : Nat) : Int) := by
  have := rg_rng n_tb; have := rg_rng v1; have := rg_rng x_6; have := rg_rng x_18; have := rg_rng x_23; omega
theorem lg_X10_add_8 (n_tb : Int32) (v1 : Int32) (x_6 : Int32) (x_18 : Int32) (x_23 : Int32) (yb : 1 ≤ n_tb.toInt ∧ n_tb.toInt ≤ 40) (yv : 0 ≤ v1.toInt ∧ v1.toInt < n_tb.toInt) (t_2 : n_tb.toInt < (40 : Int)) (h_4 : 0 ≤ v1.toInt ∧ v1.toInt < n_tb.toInt) (t_8 : x_6.toInt = n_tb.toInt + (1 : Int)) (t_21 : x_18.toInt = (0 : Int)) (t_25 : 0 ≤ x_23.toInt ∧ x_23.toInt ≤ 100) : 0 ≤ x_23.toInt ∧ x_23.toInt ≤ 100 := by
  have := rg_rng n_tb; have := rg_rng v1; have := rg_rng x_6; have := rg_rng x_18; have := rg_rng x_23; omega
theorem lg_X10_add_9 (n_tb : Int32) (v1 : Int32) (x_6 : Int32) (x_18 : Int32) (x_23 : Int32) (yb : 1 ≤ n_tb.toInt ∧ n_tb.toInt ≤ 40) (yv : 0 ≤ v1.toInt ∧ v1.toInt < n_tb.toInt) (t_2 : n_tb.toInt < (40 : Int)) (h_4 : 0 ≤ v1.toInt ∧ v1.toInt < n_tb.toInt) (t_8 : x_6.toInt = n_tb.toInt + (1 : Int)) (t_21 : x_18.toInt = (0 : Int)) (t_25 : 0 ≤ x_23.toInt ∧ x_23.toInt ≤ 100) : (n_tb.toInt < 40 ∧ x_6.toInt = n_tb.toInt + 1) ∨ (n_tb.toInt = 40 ∧ x_6.toInt = n_tb.toInt) := by
  have := rg_rng n_tb; have := rg_rng v1; have := rg_rng x_6; have := rg_rng x_18; have := rg_rng x_23; omega
theorem lg_X10_add_10 (n_tb : Int32) (v1 : Int32) (x_6 : Int32) (x_18 : Int32) (x_23 : Int32) (yb : 1 ≤ n_tb.toInt ∧ n_tb.toInt ≤ 40) (yv : 0 ≤ v1.toInt ∧ v1.toInt < n_tb.toInt) (t_2 : n_tb.toInt < (40 : Int)) (h_4 : 0 ≤ v1.toInt ∧ v1.toInt < n_tb.toInt) (t_8 : x_6.toInt = n_tb.toInt + (1 : Int)) (t_21 : x_18.toInt = (0 : Int)) (t_25 : 0 ≤ x_23.toInt ∧ x_23.toInt ≤ 100) : (n_tb.toInt < 40 ∧ n_tb.toInt = n_tb.toInt) ∨ (n_tb.toInt = 40 ∧ n_tb.toInt = (-1)) := by
  have := rg_rng n_tb; have := rg_rng v1; have := rg_rng x_6; have := rg_rng x_18; have := rg_rng x_23; omega
theorem lg_X10_add_11 (n_tb : Int32) (v1 : Int32) (x_6 : Int32) (x_18 : Int32) (yb : 1 ≤ n_tb.toInt ∧ n_tb.toInt ≤ 40) (yv : 0 ≤ v1.toInt ∧ v1.toInt < n_tb.toInt) (t_2 : n_tb.toInt < (40 : Int)) (h_4 : 0 ≤ v1.toInt ∧ v1.toInt < n_tb.toInt) (t_8 : x_6.toInt = n_tb.toInt + (1 : Int)) (t_21 : ¬ x_18.toInt = (0 : Int)) : 0 ≤ v1.toInt ∧ v1.toInt < ((40 : Nat) : Int) := by
  have := rg_rng n_tb; have := rg_rng v1; have := rg_rng x_6; have := rg_rng x_18; omega
theorem lg_X10_add_12 (n_tb : Int32) (v1 : Int32) (v3 : Int32) (x_6 : Int32) (x_18 : Int32) (x_29 : Int32) (yb : 1 ≤ n_tb.toInt ∧ n_tb.toInt ≤ 40) (yv : 0 ≤ v1.toInt ∧ v1.toInt < n_tb.toInt) (t_2 : n_tb.toInt < (40 : Int)) (h_4 : 0 ≤ v1.toInt ∧ v1.toInt < n_tb.toInt) (t_8 : x_6.toInt = n_tb.toInt + (1 : Int)) (t_21 : ¬ x_18.toInt = (0 : Int)) (t_32 : v3.toInt ≤ x_29.toInt) : 0 ≤ n_tb.toInt ∧ n_tb.toInt < ((40 : Nat) : Int) := by
  have := rg_rng n_tb; have := rg_rng v1; have := rg_rng v3; have := rg_rng x_6; have := rg_rng x_18; have := rg_rng x_29; omega
theorem lg_X10_add_13 (n_tb : Int32) (v1 : Int32) (v3 : Int32) (x_6 : Int32) (x_18 : Int32) (x_29 : Int32) (yb : 1 ≤ n_tb.toInt ∧ n_tb.toInt ≤ 40) (yv : 0 ≤ v1.toInt ∧ v1.toInt < n_tb.toInt) (t_2 : n_tb.toInt < (40 : Int)) (h_4 : 0 ≤ v1.toInt ∧ v1.toInt < n_tb.toInt) (t_8 : x_6.toInt = n_tb.toInt + (1 : Int)) (t_21 : ¬ x_18.toInt = (0 : Int)) (t_32 : v3.toInt ≤ x_29.toInt) : 0 ≤ v1.toInt ∧ v1.toInt < ((40 : Nat) : Int) := by
  have := rg_rng n_tb; have := rg_rng v1; have := rg_rng v3; have := rg_rng x_6; have := rg_rng x_18; have := rg_rng x_29; omega
theorem lg_X10_add_14 (n_tb : Int32) (v1 : Int32) (v3 : Int32) (x_6 : Int32) (x_18 : Int32) (x_29 : Int32) (x_34 : Int32) (yb : 1 ≤ n_tb.toInt ∧ n_tb.toInt ≤ 40) (yv : 0 ≤ v1.toInt ∧ v1.toInt < n_tb.toInt) (t_2 : n_tb.toInt < (40 : Int)) (h_4 : 0 ≤ v1.toInt ∧ v1.toInt < n_tb.toInt) (t_8 : x_6.toInt = n_tb.toInt + (1 : Int)) (t_21 : ¬ x_18.toInt = (0 : Int)) (t_32 : v3.toInt ≤ x_29.toInt) (t_36 : 0 ≤ x_34.toInt ∧ x_34.toInt ≤ 100) : 0 ≤ n_tb.toInt ∧ n_tb.toInt < ((40 : Nat) : Int) := by
  have := rg_rng n_tb; have := rg_rng v1; have := rg_rng v3; have := rg_rng x_6; have := rg_rng x_18; have := rg_rng x_29; have := rg_rng x_34; omega
theorem lg_X10_add_15 (n_tb : Int32) (v1 : Int32) (v3 : Int32) (x_6 : Int32) (x_18 : Int32) (x_29 : Int32) (x_34 : Int32) (yb : 1 ≤ n_tb.toInt ∧ n_tb.toInt ≤ 40) (yv : 0 ≤ v1.toInt ∧ v1.toInt < n_tb.toInt) (t_2 : n_tb.toInt < (40 : Int)) (h_4 : 0 ≤ v1.toInt ∧ v1.toInt < n_tb.toInt) (t_8 : x_6.toInt = n_tb.toInt + (1 : Int)) (t_21 : ¬ x_18.toInt = (0 : Int)) (t_32 : v3.toInt ≤ x_29.toInt) (t_36 : 0 ≤ x_34.toInt ∧ x_34.toInt ≤ 100) : 0 ≤ x_34.toInt ∧ x_34.toInt ≤ 100 := by
  have := rg_rng n_tb; have := rg_rng v1; have := rg_rng v3; have := rg_rng x_6; have := rg_rng x_18; have := rg_rng x_29; have := rg_rng x_34; omega
theorem lg_X10_add_16 (n_tb : Int32) (v1 : Int32) (v3 : Int32) (x_6 : Int32) (x_18 : Int32) (x_29 : Int32) (x_34 : Int32) (yb : 1 ≤ n_tb.toInt ∧ n_tb.toInt ≤ 40) (yv : 0 ≤ v1.toInt ∧ v1.toInt < n_tb.toInt) (t_2 : n_tb.toInt < (40 : Int)) (h_4 : 0 ≤ v1.toInt ∧ v1.toInt < n_tb.toInt) (t_8 : x_6.toInt = n_tb.toInt + (1 : Int)) (t_21 : ¬ x_18.toInt = (0 : Int)) (t_32 : v3.toInt ≤ x_29.toInt) (t_36 : 0 ≤ x_34.toInt ∧ x_34.toInt ≤ 100) : (n_tb.toInt < 40 ∧ x_6.toInt = n_tb.toInt + 1) ∨ (n_tb.toInt = 40 ∧ x_6.toInt = n_tb.toInt) := by
  have := rg_rng n_tb; have := rg_rng v1; have := rg_rng v3; have := rg_rng x_6; have := rg_rng x_18; have := rg_rng x_29; have := rg_rng x_34; omega
theorem lg_X10_add_17 (n_tb : Int32) (v1 : Int32) (v3 : Int32) (x_6 : Int32) (x_18 : Int32) (x_29 : Int32) (x_34 : Int32) (yb : 1 ≤ n_tb.toInt ∧ n_tb.toInt ≤ 40) (yv : 0 ≤ v1.toInt ∧ v1.toInt < n_tb.toInt) (t_2 : n_tb.toInt < (40 : Int)) (h_4 : 0 ≤ v1.toInt ∧ v1.toInt < n_tb.toInt) (t_8 : x_6.toInt = n_tb.toInt + (1 : Int)) (t_21 : ¬ x_18.toInt = (0 : Int)) (t_32 : v3.toInt ≤ x_29.toInt) (t_36 : 0 ≤ x_34.toInt ∧ x_34.toInt ≤ 100) : (n_tb.toInt < 40 ∧ n_tb.toInt = n_tb.toInt) ∨ (n_tb.toInt = 40 ∧ n_tb.toInt = (-1)) := by
  have := rg_rng n_tb; have := rg_rng v1; have := rg_rng v3; have := rg_rng x_6; have := rg_rng x_18; have := rg_rng x_29; have := rg_rng x_34; omega
theorem lg_X10_add_18 (n_tb : Int32) (v1 : Int32) (v3 : Int32) (x_6 : Int32) (x_18 : Int32) (x_29 : Int32) (yb : 1 ≤ n_tb.toInt ∧ n_tb.toInt ≤ 40) (yv : 0 ≤ v1.toInt ∧ v1.toInt < n_tb.toInt) (t_2 : n_tb.toInt < (40 : Int)) (h_4 : 0 ≤ v1.toInt ∧ v1.toInt < n_tb.toInt) (t_8 : x_6.toInt = n_tb.toInt + (1 : Int)) (t_21 : ¬ x_18.toInt = (0 : Int)) (t_32 : x_29.toInt < v3.toInt) : 0 ≤ n_tb.toInt ∧ n_tb.toInt < ((40 : Nat) : Int) := by
  have := rg_rng n_tb; have := rg_rng v1; have := rg_rng v3; have := rg_rng x_6; have := rg_rng x_18; have := rg_rng x_29; omega
theorem lg_X10_add_19 (n_tb : Int32) (v1 : Int32) (v3 : Int32) (x_6 : Int32) (x_18 : Int32) (x_29 : Int32) (yb : 1 ≤ n_tb.toInt ∧ n_tb.toInt ≤ 40) (yv : 0 ≤ v1.toInt ∧ v1.toInt < n_tb.toInt) (t_2 : n_tb.toInt < (40 : Int)) (h_4 : 0 ≤ v1.toInt ∧ v1.toInt < n_tb.toInt) (t_8 : x_6.toInt = n_tb.toInt + (1 : Int)) (t_21 : ¬ x_18.toInt = (0 : Int)) (t_32 : x_29.toInt < v3.toInt) : 0 ≤ v1.toInt ∧ v1.toInt < ((40 : Nat) : Int) := by
  have := rg_rng n_tb; have := rg_rng v1; have := rg_rng v3; have := rg_rng x_6; have := rg_rng x_18; have := rg_rng x_29; omega
theorem lg_X10_add_20 (n_tb : Int32) (v1 : Int32) (v3 : Int32) (x_6 : Int32) (x_18 : Int32) (x_29 : Int32) (x_41 : Int32) (yb : 1 ≤ n_tb.toInt ∧ n_tb.toInt ≤ 40) (yv : 0 ≤ v1.toInt ∧ v1.toInt < n_tb.toInt) (t_2 : n_tb.toInt < (40 : Int)) (h_4 : 0 ≤ v1.toInt ∧ v1.toInt < n_tb.toInt) (t_8 : x_6.toInt = n_tb.toInt + (1 : Int)) (t_21 : ¬ x_18.toInt = (0 : Int)) (t_32 : x_29.toInt < v3.toInt) (t_43 : 0 ≤ x_41.toInt ∧ x_41.toInt ≤ 100) : 0 ≤ n_tb.toInt ∧ n_tb.toInt < ((40 : Nat) : Int) := by
  have := rg_rng n_tb; have := rg_rng v1; have := rg_rng v3; have := rg_rng x_6; have := rg_rng x_18; have := rg_rng x_29; have := rg_rng x_41; omega
theorem lg_X10_add_21 (n_tb : Int32) (v1 : Int32) (v3 : Int32) (x_6 : Int32) (x_18 : Int32) (x_29 : Int32) (x_41 : Int32) (yb : 1 ≤ n_tb.toInt ∧ n_tb.toInt ≤ 40) (yv : 0 ≤ v1.toInt ∧ v1.toInt < n_tb.toInt) (t_2 : n_tb.toInt < (40 : Int)) (h_4 : 0 ≤ v1.toInt ∧ v1.toInt < n_tb.toInt) (t_8 : x_6.toInt = n_tb.toInt + (1 : Int)) (t_21 : ¬ x_18.toInt = (0 : Int)) (t_32 : x_29.toInt < v3.toInt) (t_43 : 0 ≤ x_41.toInt ∧ x_41.toInt ≤ 100) : 0 ≤ x_41.toInt ∧ x_41.toInt ≤ 100 := by
  have := rg_rng n_tb; have := rg_rng v1; have := rg_rng v3; have := rg_rng x_6; have := rg_rng x_18; have := rg_rng x_29; have := rg_rng x_41; omega
theorem lg_X10_add_22 (n_tb : Int32) (v1 : Int32) (v3 : Int32) (x_6 : Int32) (x_18 : Int32) (x_29 : Int32) (x_41 : Int32) (yb : 1 ≤ n_tb.toInt ∧ n_tb.toInt ≤ 40) (yv : 0 ≤ v1.toInt ∧ v1.toInt < n_tb.toInt) (t_2 : n_tb.toInt < (40 : Int)) (h_4 : 0 ≤ v1.toInt ∧ v1.toInt < n_tb.toInt) (t_8 : x_6.toInt = n_tb.toInt + (1 : Int)) (t_21 : ¬ x_18.toInt = (0 : Int)) (t_32 : x_29.toInt < v3.toInt) (t_43 : 0 ≤ x_41.toInt ∧ x_41.toInt ≤ 100) : (n_tb.toInt < 40 ∧ x_6.toInt = n_tb.toInt + 1) ∨ (n_tb.toInt = 40 ∧ x_6.toInt = n_tb.toInt) := by
  have := rg_rng n_tb; have := rg_rng v1; have := rg_rng v3; have := rg_rng x_6; have := rg_rng x_18; have := rg_rng x_29; have := rg_rng x_41; omega
theorem lg_X10_add_23 (n_tb : Int32) (v1 : Int32) (v3 : Int32) (x_6 : Int32) (x_18 : Int32) (x_29 : Int32) (x_41 : Int32) (yb : 1 ≤ n_tb.toInt ∧ n_tb.toInt ≤ 40) (yv : 0 ≤ v1.toInt ∧ v1.toInt < n_tb.toInt) (t_2 : n_tb.toInt < (40 : Int)) (h_4 : 0 ≤ v1.toInt ∧ v1.toInt < n_tb.toInt) (t_8 : x_6.toInt = n_tb.toInt + (1 : Int)) (t_21 : ¬ x_18.toInt = (0 : Int)) (t_32 : x_29.toInt < v3.toInt) (t_43 : 0 ≤ x_41.toInt ∧ x_41.toInt ≤ 100) : (n_tb.toInt < 40 ∧ n_tb.toInt = n_tb.toInt) ∨ (n_tb.toInt = 40 ∧ n_tb.toInt = (-1)) := by
  have := rg_rng n_tb; have := rg_rng v1; have := rg_rng v3; have := rg_rng x_6; have := rg_rng x_18; have := rg_rng x_29; have := rg_rng x_41; omega
theorem lg_X10_add_24 (n_tb : Int32) (v1 : Int32) (yb : 1 ≤ n_tb.toInt ∧ n_tb.toInt ≤ 40) (yv : 0 ≤ v1.toInt ∧ v1.toInt < n_tb.toInt) (t_2 : n_tb.toInt < (40 : Int)) (h_4 : ¬ (0 ≤ v1.toInt ∧ v1.toInt < n_tb.toInt)) : (n_tb.toInt < 40 ∧ n_tb.toInt = n_tb.toInt + 1) ∨ (n_tb.toInt = 40 ∧ n_tb.toInt = n_tb.toInt) := by
  have := rg_rng n_tb; have := rg_rng v1; omega
theorem lg_X10_add_25 (n_tb : Int32) (v1 : Int32) (yb : 1 ≤ n_tb.toInt ∧ n_tb.toInt ≤ 40) (yv : 0 ≤ v1.toInt ∧ v1.toInt < n_tb.toInt) (t_2 : n_tb.toInt < (40 : Int)) (h_4 : ¬ (0 ≤ v1.toInt ∧ v1.toInt < n_tb.toInt)) : (n_tb.toInt < 40 ∧ (-1 : Int) = n_tb.toInt) ∨ (n_tb.toInt = 40 ∧ (-1 : Int) = (-1)) := by
  have := rg_rng n_tb; have := rg_rng v1; omega
set_option maxHeartbeats 4000000 in
set_option maxRecDepth 100000 in
theorem kX10_add (l : Launch) (dC : Nat → ClassId) (dI : Nat → Nat → Nat) (sz : Nat) (h0 : Nat) (t_to : Nat) (t_height : Nat) (t_member : Nat) (t_lengthHome : Nat) (t_runs : Nat) (t_leak : Nat) (t_vacuum : Nat) (t_reading : Nat) (n_tb : Int32) (k_to : ClassId) (k_height : ClassId) (k_member : ClassId) (k_lengthHome : ClassId) (k_runs : ClassId) (k_vacuum : ClassId) (k_reading : ClassId) (f_to : Nat → Int32) (f_height : Nat → Int32) (f_member : Nat → Int32) (f_lengthHome : Nat → Int32) (f_runs : Nat → Int32) (f_vacuum : Nat → Int32) (f_reading : Nat → Int32) (v1 : Int32) (v2 : Int32) (v3 : Int32) (v4 : Int32) (yb : 1 ≤ n_tb.toInt ∧ n_tb.toInt ≤ 40) (yvac : Rg f_vacuum 40 0 100) (yv : 0 ≤ v1.toInt ∧ v1.toInt < n_tb.toInt) : Met l yX10_add (Cond.code yX10_add cX10_add 6 (some .int) :: bg) ({ frames := 1, cells := 0, slots := 0, locals := 21 }) (pcW dC dI [.ref h0, .int v1, .int v2, .int v3, .int v4] sz [(h0, .inr (10, [.ref t_to, .ref t_height, .ref t_member, .ref t_lengthHome, .ref t_runs, .ref t_leak, .ref t_vacuum, .ref t_reading, .int n_tb])), (t_to, .inl (k_to, 40, .inl f_to)), (t_height, .inl (k_height, 40, .inl f_height)), (t_member, .inl (k_member, 40, .inl f_member)), (t_lengthHome, .inl (k_lengthHome, 40, .inl f_lengthHome)), (t_runs, .inl (k_runs, 40, .inl f_runs)), (t_vacuum, .inl (k_vacuum, 40, .inl f_vacuum)), (t_reading, .inl (k_reading, 40, .inl f_reading))] [(k_to, .int), (k_height, .int), (k_member, .int), (k_lengthHome, .int), (k_runs, .boolean), (k_vacuum, .int), (k_reading, .int)]) (va_Qi (fun (r : Int32) (u : Unit) => (n_tb.toInt < 40 ∧ r.toInt = n_tb.toInt) ∨ (n_tb.toInt = 40 ∧ r.toInt = (-1))) (fun (u : Unit) (t : State) => ∃ (w_tb : Int32) (w_to : Nat → Int32) (w_height : Nat → Int32) (w_member : Nat → Int32) (w_lengthHome : Nat → Int32) (w_runs : Nat → Int32) (w_vacuum : Nat → Int32) (w_reading : Nat → Int32), ((n_tb.toInt < 40 ∧ w_tb.toInt = n_tb.toInt + 1) ∨ (n_tb.toInt = 40 ∧ w_tb.toInt = n_tb.toInt)) ∧ Rg w_vacuum 40 0 100 ∧ va_P (dC, dI) vwCl [(h0, .inr (10, [.ref t_to, .ref t_height, .ref t_member, .ref t_lengthHome, .ref t_runs, .ref t_leak, .ref t_vacuum, .ref t_reading, .int w_tb])), (t_to, .inl (k_to, 40, .inl w_to)), (t_height, .inl (k_height, 40, .inl w_height)), (t_member, .inl (k_member, 40, .inl w_member)), (t_lengthHome, .inl (k_lengthHome, 40, .inl w_lengthHome)), (t_runs, .inl (k_runs, 40, .inl w_runs)), (t_vacuum, .inl (k_vacuum, 40, .inl w_vacuum)), (t_reading, .inl (k_reading, 40, .inl w_reading))] t.heap ∧ va_K (dC, dI) vwCl [] t ∧ va_D (va_A [(h0, .inr (10, [.ref t_to, .ref t_height, .ref t_member, .ref t_lengthHome, .ref t_runs, .ref t_leak, .ref t_vacuum, .ref t_reading, .int n_tb])), (t_to, .inl (k_to, 40, .inl f_to)), (t_height, .inl (k_height, 40, .inl f_height)), (t_member, .inl (k_member, 40, .inl f_member)), (t_lengthHome, .inl (k_lengthHome, 40, .inl f_lengthHome)), (t_runs, .inl (k_runs, 40, .inl f_runs)), (t_vacuum, .inl (k_vacuum, 40, .inl f_vacuum)), (t_reading, .inl (k_reading, 40, .inl f_reading))] sz) [(h0, .inr (10, [.ref t_to, .ref t_height, .ref t_member, .ref t_lengthHome, .ref t_runs, .ref t_leak, .ref t_vacuum, .ref t_reading, .int w_tb])), (t_to, .inl (k_to, 40, .inl w_to)), (t_height, .inl (k_height, 40, .inl w_height)), (t_member, .inl (k_member, 40, .inl w_member)), (t_lengthHome, .inl (k_lengthHome, 40, .inl w_lengthHome)), (t_runs, .inl (k_runs, 40, .inl w_runs)), (t_vacuum, .inl (k_vacuum, 40, .inl w_vacuum)), (t_reading, .inl (k_reading, 40, .inl w_reading))]) (va_A [(h0, .inr (10, [.ref t_to, .ref t_height, .ref t_member, .ref t_lengthHome, .ref t_runs, .ref t_leak, .ref t_vacuum, .ref t_reading, .int n_tb])), (t_to, .inl (k_to, 40, .inl f_to)), (t_height, .inl (k_height, 40, .inl f_height)), (t_member, .inl (k_member, 40, .inl f_member)), (t_lengthHome, .inl (k_lengthHome, 40, .inl f_lengthHome)), (t_runs, .inl (k_runs, 40, .inl f_runs)), (t_vacuum, .inl (k_vacuum, 40, .inl f_vacuum)), (t_reading, .inl (k_reading, 40, .inl f_reading))] sz)) 0 0 (va_A [(h0, .inr (10, [.ref t_to, .ref t_height, .ref t_member, .ref t_lengthHome, .ref t_runs, .ref t_leak, .ref t_vacuum, .ref t_reading, .int n_tb])), (t_to, .inl (k_to, 40, .inl f_to)), (t_height, .inl (k_height, 40, .inl f_height)), (t_member, .inl (k_member, 40, .inl f_member)), (t_lengthHome, .inl (k_lengthHome, 40, .inl f_lengthHome)), (t_runs, .inl (k_runs, 40, .inl f_runs)), (t_vacuum, .inl (k_vacuum, 40, .inl f_vacuum)), (t_reading, .inl (k_reading, 40, .inl f_reading))] sz) := by
  refine Met.ofW (cc := cX10_add) (maxL := 6) (ret := (some .int)) pnX10 rfl ?_
  intro p e s m args below meth c s₁ B hml hv
  obtain ⟨rfl, hsz, hP, hK, hD0, hN⟩ := hv
  have hx := B.exec
  have hb := B.bytes
  have hr := B.returns
  have htb : ∀ w ∈ bg, w.before [.ref h0, .int v1, .int v2, .int v3, .int v4].toArray s = true := fun w h => atoms_spec (ws := Cond.code yX10_add cX10_add 6 (some .int) :: bg) B.pre w (List.mem_cons_of_mem _ h)
  have hown : s.vm.findClass RX10 = some m.cls := findClass_of_methodNamed B.named
  have hlocks := B.notSynchronized
  subst hsz
  have hD := hD0.self (sz := s.heap.size)
  generalize hAe : va_A [(h0, .inr (10, [.ref t_to, .ref t_height, .ref t_member, .ref t_lengthHome, .ref t_runs, .ref t_leak, .ref t_vacuum, .ref t_reading, .int n_tb])), (t_to, .inl (k_to, 40, .inl f_to)), (t_height, .inl (k_height, 40, .inl f_height)), (t_member, .inl (k_member, 40, .inl f_member)), (t_lengthHome, .inl (k_lengthHome, 40, .inl f_lengthHome)), (t_runs, .inl (k_runs, 40, .inl f_runs)), (t_vacuum, .inl (k_vacuum, 40, .inl f_vacuum)), (t_reading, .inl (k_reading, 40, .inl f_reading))] s.heap.size = A at hD ⊢
  have hA : ∀ q : Nat, s.heap.size ≤ q → A q := fun q h => by rw [← hAe]; exact Or.inr h
  have hS : va_S A s.heap s.heap [] := va_S.rf
  have hl := lv_entry ([.ref h0, .int v1, .int v2, .int v3, .int v4]) (n := 6) (Nat.le_of_ble_eq_true rfl)
  rw [lg_entry_eq]
  generalize (lg_sl ([.ref h0, .int v1, .int v2, .int v3, .int v4]) ++ List.replicate (6 - (lg_sl ([.ref h0, .int v1, .int v2, .int v3, .int v4])).length) Slot.unset).toArray = ls at hl ⊢
  change lv_has ls 6 [(0, .ref h0), (1, .int v1), (2, .int v2), (3, .int v3), (4, .int v4)] at hl
  clear hD0 hAe
  refine go0 (wsP := fun H => va_P (dC, dI) vwCl [(h0, .inr (10, [.ref t_to, .ref t_height, .ref t_member, .ref t_lengthHome, .ref t_runs, .ref t_leak, .ref t_vacuum, .ref t_reading, .int n_tb])), (t_to, .inl (k_to, 40, .inl f_to)), (t_height, .inl (k_height, 40, .inl f_height)), (t_member, .inl (k_member, 40, .inl f_member)), (t_lengthHome, .inl (k_lengthHome, 40, .inl f_lengthHome)), (t_runs, .inl (k_runs, 40, .inl f_runs)), (t_vacuum, .inl (k_vacuum, 40, .inl f_vacuum)), (t_reading, .inl (k_reading, 40, .inl f_reading))] H) hP hS ?_
  clear hP hS; intro H locs hP hS
  change va_P (dC, dI) vwCl [(h0, .inr (10, [.ref t_to, .ref t_height, .ref t_member, .ref t_lengthHome, .ref t_runs, .ref t_leak, .ref t_vacuum, .ref t_reading, .int n_tb])), (t_to, .inl (k_to, 40, .inl f_to)), (t_height, .inl (k_height, 40, .inl f_height)), (t_member, .inl (k_member, 40, .inl f_member)), (t_lengthHome, .inl (k_lengthHome, 40, .inl f_lengthHome)), (t_runs, .inl (k_runs, 40, .inl f_runs)), (t_vacuum, .inl (k_vacuum, 40, .inl f_vacuum)), (t_reading, .inl (k_reading, 40, .inl f_reading))] H at hP
  refine lv_aload_n hx hb dX10_add_0 rfl (lv_at hl 0 rfl) ?_
  refine va_get (D := (dC, dI)) (ci := 10) (v := .int n_tb) (C := RX10) (T := TX10) (N := 9) hx hb htb iX10 hown hK hP 0 rfl rfl 8 (Nat.le_of_ble_eq_true rfl) (htb _ m_42) (fun _ h9 => h9) rfl dX10_add_1 ?_
  refine lv_bipush (v := 40) hx hb dX10_add_4 (by decide) ?_
  refine lv_icmp_ge (tgt := 17) hx hb dX10_add_6 (by decide) (fun c_1 => ?_) (fun c_1 => ?_)
  · have t_2 : (40 : Int) ≤ n_tb.toInt := i_le (by decide) rfl c_1
    refine lv_iconst (v := (-1)) hx hb dX10_add_17 (by decide) ?_
    refine W.widen (k := 0) (n := 0) (Nat.le_of_ble_eq_true rfl) (Nat.le_of_ble_eq_true rfl) ?_
    have hP9 := hP.sub (ws' := [(h0, .inr (10, [.ref t_to, .ref t_height, .ref t_member, .ref t_lengthHome, .ref t_runs, .ref t_leak, .ref t_vacuum, .ref t_reading, .int n_tb])), (t_to, .inl (k_to, 40, .inl f_to)), (t_height, .inl (k_height, 40, .inl f_height)), (t_member, .inl (k_member, 40, .inl f_member)), (t_lengthHome, .inl (k_lengthHome, 40, .inl f_lengthHome)), (t_runs, .inl (k_runs, 40, .inl f_runs)), (t_vacuum, .inl (k_vacuum, 40, .inl f_vacuum)), (t_reading, .inl (k_reading, 40, .inl f_reading))]) [0, 1, 2, 3, 4, 5, 6, 7] rfl
    have hD9 := hD.sub (ws' := [(h0, .inr (10, [.ref t_to, .ref t_height, .ref t_member, .ref t_lengthHome, .ref t_runs, .ref t_leak, .ref t_vacuum, .ref t_reading, .int n_tb])), (t_to, .inl (k_to, 40, .inl f_to)), (t_height, .inl (k_height, 40, .inl f_height)), (t_member, .inl (k_member, 40, .inl f_member)), (t_lengthHome, .inl (k_lengthHome, 40, .inl f_lengthHome)), (t_runs, .inl (k_runs, 40, .inl f_runs)), (t_vacuum, .inl (k_vacuum, 40, .inl f_vacuum)), (t_reading, .inl (k_reading, 40, .inl f_reading))]) [0, 1, 2, 3, 4, 5, 6, 7] (by decide) rfl
    have hK9 := hK.sub (tys' := []) [] rfl
    exact W.iret (v := (-1)) hx hb hr (fun t ht hW => ⟨⟨(-1), (), rfl, (lg_X10_add_1 n_tb v1 yb yv t_2), ⟨n_tb, f_to, f_height, f_member, f_lengthHome, f_runs, f_vacuum, f_reading, (lg_X10_add_0 n_tb v1 yb yv t_2), yvac, by rw [ht]; exact hP9, va_K.moved hW.alike hK9, hD9⟩⟩, hS.F ht⟩) hS.2.2 dX10_add_18
  · have t_2 : n_tb.toInt < (40 : Int) := i_nle (by decide) rfl c_1
    refine lv_aload_n hx hb dX10_add_9 rfl (lv_at hl 0 rfl) ?_
    refine lv_iload_n hx hb dX10_add_10 rfl (lv_at hl 1 rfl) ?_
    have hPc := hP.sub (ws' := [(h0, .inr (10, [.ref t_to, .ref t_height, .ref t_member, .ref t_lengthHome, .ref t_runs, .ref t_leak, .ref t_vacuum, .ref t_reading, .int n_tb]))]) [0] rfl
    have hDc := hD.sub (ws' := [(h0, .inr (10, [.ref t_to, .ref t_height, .ref t_member, .ref t_lengthHome, .ref t_runs, .ref t_leak, .ref t_vacuum, .ref t_reading, .int n_tb]))]) [0] (by decide) rfl
    have hKc := hK.sub (tys' := []) [] rfl
    have hFc := va_free (wc := [(h0, .inr (10, [.ref t_to, .ref t_height, .ref t_member, .ref t_lengthHome, .ref t_runs, .ref t_leak, .ref t_vacuum, .ref t_reading, .int n_tb]))]) hD hS hA [0] rfl
    refine va_calli (va_runV (C := RX10) (As := [.int v1]) (rest := []) ⟨hx, hb, hml, hown, htb⟩ (kX10_has l dC dI H.size h0 t_to t_height t_member t_lengthHome t_runs t_leak t_vacuum t_reading n_tb v1 ) ⟨callB_of 1 htb (gd_c m_352) rfl rfl rfl (htb _ m_2) (htb _ m_363) hdX10_has ⟨(Nat.le_of_ble_eq_true rfl), (Nat.le_of_ble_eq_true rfl)⟩, htb _ m_350, htb _ m_351⟩ ⟨pcW_blind, va_recv hKc hPc (ci := 10) (q0 := 0) rfl rfl, pcW_at hPc hKc hDc hN⟩ rfl rfl hl.1 rfl (lv_room (Nat.le_of_ble_eq_true rfl)) dX10_add_11 ⟨(Nat.le_of_ble_eq_true rfl), (Nat.le_of_ble_eq_true rfl)⟩) hS (fun q _ h => hFc q h) hFc (fun r_3 u t H1 locs1 ht hvm h_4 hB hz1 hk1 hS1 => ?_)
    obtain ⟨hP1, hK1, hD1⟩ := hB
    rw [ht] at hP1
    obtain ⟨hPn, hDn⟩ := va_join (wr := [(t_to, .inl (k_to, 40, .inl f_to)), (t_height, .inl (k_height, 40, .inl f_height)), (t_member, .inl (k_member, 40, .inl f_member)), (t_lengthHome, .inl (k_lengthHome, 40, .inl f_lengthHome)), (t_runs, .inl (k_runs, 40, .inl f_runs)), (t_vacuum, .inl (k_vacuum, 40, .inl f_vacuum)), (t_reading, .inl (k_reading, 40, .inl f_reading))]) (w1 := [(h0, .inr (10, [.ref t_to, .ref t_height, .ref t_member, .ref t_lengthHome, .ref t_runs, .ref t_leak, .ref t_vacuum, .ref t_reading, .int n_tb]))]) hP hD [0] [1, 2, 3, 4, 5, 6, 7] rfl rfl (by decide) (by decide) hk1 hFc hP1 hD1
    clear hP1 hD1 hK1
    clear hP hD hS hPc hDc hKc hFc hk1 hz1 ht hvm
    clear t
    revert hS1 hPn hDn; generalize H1 = H; generalize locs1 = locs; intro hS hP hD
    change va_P (dC, dI) vwCl [(t_to, .inl (k_to, 40, .inl f_to)), (t_height, .inl (k_height, 40, .inl f_height)), (t_member, .inl (k_member, 40, .inl f_member)), (t_lengthHome, .inl (k_lengthHome, 40, .inl f_lengthHome)), (t_runs, .inl (k_runs, 40, .inl f_runs)), (t_vacuum, .inl (k_vacuum, 40, .inl f_vacuum)), (t_reading, .inl (k_reading, 40, .inl f_reading)), (h0, .inr (10, [.ref t_to, .ref t_height, .ref t_member, .ref t_lengthHome, .ref t_runs, .ref t_leak, .ref t_vacuum, .ref t_reading, .int n_tb]))] H at hP
    change va_D A [(t_to, .inl (k_to, 40, .inl f_to)), (t_height, .inl (k_height, 40, .inl f_height)), (t_member, .inl (k_member, 40, .inl f_member)), (t_lengthHome, .inl (k_lengthHome, 40, .inl f_lengthHome)), (t_runs, .inl (k_runs, 40, .inl f_runs)), (t_vacuum, .inl (k_vacuum, 40, .inl f_vacuum)), (t_reading, .inl (k_reading, 40, .inl f_reading)), (h0, .inr (10, [.ref t_to, .ref t_height, .ref t_member, .ref t_lengthHome, .ref t_runs, .ref t_leak, .ref t_vacuum, .ref t_reading, .int n_tb]))] at hD
    rcases h_4 with ⟨rfl, h_4⟩ | ⟨rfl, h_4⟩
    · refine lv_if_ne (tgt := 19) hx hb dX10_add_14 (by decide) ?_ (fun c_5 => absurd c_5 (by decide))
      intro _
      refine lv_aload_n hx hb dX10_add_19 rfl (lv_at hl 0 rfl) ?_
      refine va_get (D := (dC, dI)) (ci := 10) (v := .int n_tb) (C := RX10) (T := TX10) (N := 9) hx hb htb iX10 hown hK hP 7 rfl rfl 8 (Nat.le_of_ble_eq_true rfl) (htb _ m_42) (fun _ h9 => h9) rfl dX10_add_20 ?_
      refine lv_istore (lv' := [(5, .int n_tb), (0, .ref h0), (1, .int v1), (2, .int v2), (3, .int v3), (4, .int v4)]) hx hb dX10_add_23 hl (by decide) rfl ?_
      clear hl; intro ls hl
      refine lv_aload_n hx hb dX10_add_25 rfl (lv_at hl 1 rfl) ?_
      refine lv_dup hx hb dX10_add_26 rfl ?_
      refine va_get (D := (dC, dI)) (ci := 10) (v := .int n_tb) (C := RX10) (T := TX10) (N := 9) hx hb htb iX10 hown hK hP 7 rfl rfl 8 (Nat.le_of_ble_eq_true rfl) (htb _ m_42) (fun _ h9 => h9) rfl dX10_add_27 ?_
      refine lv_iconst (v := 1) hx hb dX10_add_30 (by decide) ?_
      refine lv_iadd hx hb dX10_add_31 ?_
      refine lv_topi (fun x_6 ex_7 => ?_)
      have t_8 : x_6.toInt = n_tb.toInt + (1 : Int) := i_add rfl (by decide) (lg_X10_add_2 n_tb v1 yb yv t_2 h_4) ex_7
      refine va_put (D := (dC, dI)) (ci := 10) (v := .int x_6) (C := RX10) (T := TX10) (N := 9) hx hb htb iX10 tyX10 tyX10_ok nmX10 hown hK hP hD hS 7 rfl rfl 8 (Nat.le_of_ble_eq_true rfl) (htb _ m_42) (fun _ h9 => h9) rfl (tyX10_ok 8 (Nat.le_of_ble_eq_true rfl)) rfl rfl (Nat.le_of_ble_eq_true rfl) dX10_add_32 ?_
      clear hP hD hS; intro H locs hP hD hS
      change va_P (dC, dI) vwCl [(t_to, .inl (k_to, 40, .inl f_to)), (t_height, .inl (k_height, 40, .inl f_height)), (t_member, .inl (k_member, 40, .inl f_member)), (t_lengthHome, .inl (k_lengthHome, 40, .inl f_lengthHome)), (t_runs, .inl (k_runs, 40, .inl f_runs)), (t_vacuum, .inl (k_vacuum, 40, .inl f_vacuum)), (t_reading, .inl (k_reading, 40, .inl f_reading)), (h0, .inr (10, [.ref t_to, .ref t_height, .ref t_member, .ref t_lengthHome, .ref t_runs, .ref t_leak, .ref t_vacuum, .ref t_reading, .int x_6]))] H at hP
      change va_D A [(t_to, .inl (k_to, 40, .inl f_to)), (t_height, .inl (k_height, 40, .inl f_height)), (t_member, .inl (k_member, 40, .inl f_member)), (t_lengthHome, .inl (k_lengthHome, 40, .inl f_lengthHome)), (t_runs, .inl (k_runs, 40, .inl f_runs)), (t_vacuum, .inl (k_vacuum, 40, .inl f_vacuum)), (t_reading, .inl (k_reading, 40, .inl f_reading)), (h0, .inr (10, [.ref t_to, .ref t_height, .ref t_member, .ref t_lengthHome, .ref t_runs, .ref t_leak, .ref t_vacuum, .ref t_reading, .int x_6]))] at hD
      refine lv_aload_n hx hb dX10_add_35 rfl (lv_at hl 1 rfl) ?_
      refine va_get (D := (dC, dI)) (ci := 10) (v := .ref t_to) (C := RX10) (T := TX10) (N := 9) hx hb htb iX10 hown hK hP 7 rfl rfl 0 (Nat.le_of_ble_eq_true rfl) (htb _ m_34) (fun _ h9 => h9) rfl dX10_add_36 ?_
      refine lv_iload hx hb dX10_add_39 (lv_at hl 0 rfl) ?_
      refine lv_iload_n hx hb dX10_add_41 rfl (lv_at hl 2 rfl) ?_
      refine va_iast hx hb hK hP hD hS 0 0 rfl rfl (i_in rfl (lg_X10_add_3 n_tb v1 x_6 yb yv t_2 h_4 t_8)) dX10_add_42 ?_
      clear hP hD hS; intro H locs hP hD hS
      change va_P (dC, dI) vwCl [(t_to, .inl (k_to, 40, .inl (upd f_to (Int32.toNatClampNeg n_tb) v1))), (t_height, .inl (k_height, 40, .inl f_height)), (t_member, .inl (k_member, 40, .inl f_member)), (t_lengthHome, .inl (k_lengthHome, 40, .inl f_lengthHome)), (t_runs, .inl (k_runs, 40, .inl f_runs)), (t_vacuum, .inl (k_vacuum, 40, .inl f_vacuum)), (t_reading, .inl (k_reading, 40, .inl f_reading)), (h0, .inr (10, [.ref t_to, .ref t_height, .ref t_member, .ref t_lengthHome, .ref t_runs, .ref t_leak, .ref t_vacuum, .ref t_reading, .int x_6]))] H at hP
      change va_D A [(t_to, .inl (k_to, 40, .inl (upd f_to (Int32.toNatClampNeg n_tb) v1))), (t_height, .inl (k_height, 40, .inl f_height)), (t_member, .inl (k_member, 40, .inl f_member)), (t_lengthHome, .inl (k_lengthHome, 40, .inl f_lengthHome)), (t_runs, .inl (k_runs, 40, .inl f_runs)), (t_vacuum, .inl (k_vacuum, 40, .inl f_vacuum)), (t_reading, .inl (k_reading, 40, .inl f_reading)), (h0, .inr (10, [.ref t_to, .ref t_height, .ref t_member, .ref t_lengthHome, .ref t_runs, .ref t_leak, .ref t_vacuum, .ref t_reading, .int x_6]))] at hD
      generalize upd f_to (Int32.toNatClampNeg n_tb) v1 = g_9 at hP hD
      refine lv_aload_n hx hb dX10_add_43 rfl (lv_at hl 1 rfl) ?_
      refine va_get (D := (dC, dI)) (ci := 10) (v := .ref t_height) (C := RX10) (T := TX10) (N := 9) hx hb htb iX10 hown hK hP 7 rfl rfl 1 (Nat.le_of_ble_eq_true rfl) (htb _ m_35) (fun _ h9 => h9) rfl dX10_add_44 ?_
      refine lv_iload hx hb dX10_add_47 (lv_at hl 0 rfl) ?_
      refine lv_iload_n hx hb dX10_add_49 rfl (lv_at hl 4 rfl) ?_
      refine va_iast hx hb hK hP hD hS 1 1 rfl rfl (i_in rfl (lg_X10_add_3 n_tb v1 x_6 yb yv t_2 h_4 t_8)) dX10_add_50 ?_
      clear hP hD hS; intro H locs hP hD hS
      change va_P (dC, dI) vwCl [(t_to, .inl (k_to, 40, .inl g_9)), (t_height, .inl (k_height, 40, .inl (upd f_height (Int32.toNatClampNeg n_tb) v3))), (t_member, .inl (k_member, 40, .inl f_member)), (t_lengthHome, .inl (k_lengthHome, 40, .inl f_lengthHome)), (t_runs, .inl (k_runs, 40, .inl f_runs)), (t_vacuum, .inl (k_vacuum, 40, .inl f_vacuum)), (t_reading, .inl (k_reading, 40, .inl f_reading)), (h0, .inr (10, [.ref t_to, .ref t_height, .ref t_member, .ref t_lengthHome, .ref t_runs, .ref t_leak, .ref t_vacuum, .ref t_reading, .int x_6]))] H at hP
      change va_D A [(t_to, .inl (k_to, 40, .inl g_9)), (t_height, .inl (k_height, 40, .inl (upd f_height (Int32.toNatClampNeg n_tb) v3))), (t_member, .inl (k_member, 40, .inl f_member)), (t_lengthHome, .inl (k_lengthHome, 40, .inl f_lengthHome)), (t_runs, .inl (k_runs, 40, .inl f_runs)), (t_vacuum, .inl (k_vacuum, 40, .inl f_vacuum)), (t_reading, .inl (k_reading, 40, .inl f_reading)), (h0, .inr (10, [.ref t_to, .ref t_height, .ref t_member, .ref t_lengthHome, .ref t_runs, .ref t_leak, .ref t_vacuum, .ref t_reading, .int x_6]))] at hD
      generalize upd f_height (Int32.toNatClampNeg n_tb) v3 = g_10 at hP hD
      refine lv_aload_n hx hb dX10_add_51 rfl (lv_at hl 1 rfl) ?_
      refine va_get (D := (dC, dI)) (ci := 10) (v := .ref t_member) (C := RX10) (T := TX10) (N := 9) hx hb htb iX10 hown hK hP 7 rfl rfl 2 (Nat.le_of_ble_eq_true rfl) (htb _ m_36) (fun _ h9 => h9) rfl dX10_add_52 ?_
      refine lv_iload hx hb dX10_add_55 (lv_at hl 0 rfl) ?_
      refine lv_iload hx hb dX10_add_57 (lv_at hl 5 rfl) ?_
      refine va_iast hx hb hK hP hD hS 2 2 rfl rfl (i_in rfl (lg_X10_add_3 n_tb v1 x_6 yb yv t_2 h_4 t_8)) dX10_add_59 ?_
      clear hP hD hS; intro H locs hP hD hS
      change va_P (dC, dI) vwCl [(t_to, .inl (k_to, 40, .inl g_9)), (t_height, .inl (k_height, 40, .inl g_10)), (t_member, .inl (k_member, 40, .inl (upd f_member (Int32.toNatClampNeg n_tb) v4))), (t_lengthHome, .inl (k_lengthHome, 40, .inl f_lengthHome)), (t_runs, .inl (k_runs, 40, .inl f_runs)), (t_vacuum, .inl (k_vacuum, 40, .inl f_vacuum)), (t_reading, .inl (k_reading, 40, .inl f_reading)), (h0, .inr (10, [.ref t_to, .ref t_height, .ref t_member, .ref t_lengthHome, .ref t_runs, .ref t_leak, .ref t_vacuum, .ref t_reading, .int x_6]))] H at hP
      change va_D A [(t_to, .inl (k_to, 40, .inl g_9)), (t_height, .inl (k_height, 40, .inl g_10)), (t_member, .inl (k_member, 40, .inl (upd f_member (Int32.toNatClampNeg n_tb) v4))), (t_lengthHome, .inl (k_lengthHome, 40, .inl f_lengthHome)), (t_runs, .inl (k_runs, 40, .inl f_runs)), (t_vacuum, .inl (k_vacuum, 40, .inl f_vacuum)), (t_reading, .inl (k_reading, 40, .inl f_reading)), (h0, .inr (10, [.ref t_to, .ref t_height, .ref t_member, .ref t_lengthHome, .ref t_runs, .ref t_leak, .ref t_vacuum, .ref t_reading, .int x_6]))] at hD
      generalize upd f_member (Int32.toNatClampNeg n_tb) v4 = g_11 at hP hD
      refine lv_aload_n hx hb dX10_add_60 rfl (lv_at hl 1 rfl) ?_
      refine va_get (D := (dC, dI)) (ci := 10) (v := .ref t_lengthHome) (C := RX10) (T := TX10) (N := 9) hx hb htb iX10 hown hK hP 7 rfl rfl 3 (Nat.le_of_ble_eq_true rfl) (htb _ m_37) (fun _ h9 => h9) rfl dX10_add_61 ?_
      refine lv_iload hx hb dX10_add_64 (lv_at hl 0 rfl) ?_
      refine lv_aload_n hx hb dX10_add_66 rfl (lv_at hl 1 rfl) ?_
      refine va_get (D := (dC, dI)) (ci := 10) (v := .ref t_lengthHome) (C := RX10) (T := TX10) (N := 9) hx hb htb iX10 hown hK hP 7 rfl rfl 3 (Nat.le_of_ble_eq_true rfl) (htb _ m_37) (fun _ h9 => h9) rfl dX10_add_67 ?_
      refine lv_iload_n hx hb dX10_add_70 rfl (lv_at hl 2 rfl) ?_
      refine va_iald hx hb hK hP 3 3 rfl rfl (i_in rfl (lg_X10_add_4 n_tb v1 x_6 yb yv t_2 h_4 t_8)) dX10_add_71 ?_
      refine lv_topi (fun x_12 ex_13 => ?_)
      refine lv_iload_n hx hb dX10_add_72 rfl (lv_at hl 3 rfl) ?_
      refine lv_iadd hx hb dX10_add_73 ?_
      refine lv_topi (fun x_14 ex_15 => ?_)
      refine va_iast hx hb hK hP hD hS 3 3 rfl rfl (i_in rfl (lg_X10_add_3 n_tb v1 x_6 yb yv t_2 h_4 t_8)) dX10_add_74 ?_
      clear hP hD hS; intro H locs hP hD hS
      change va_P (dC, dI) vwCl [(t_to, .inl (k_to, 40, .inl g_9)), (t_height, .inl (k_height, 40, .inl g_10)), (t_member, .inl (k_member, 40, .inl g_11)), (t_lengthHome, .inl (k_lengthHome, 40, .inl (upd f_lengthHome (Int32.toNatClampNeg n_tb) x_14))), (t_runs, .inl (k_runs, 40, .inl f_runs)), (t_vacuum, .inl (k_vacuum, 40, .inl f_vacuum)), (t_reading, .inl (k_reading, 40, .inl f_reading)), (h0, .inr (10, [.ref t_to, .ref t_height, .ref t_member, .ref t_lengthHome, .ref t_runs, .ref t_leak, .ref t_vacuum, .ref t_reading, .int x_6]))] H at hP
      change va_D A [(t_to, .inl (k_to, 40, .inl g_9)), (t_height, .inl (k_height, 40, .inl g_10)), (t_member, .inl (k_member, 40, .inl g_11)), (t_lengthHome, .inl (k_lengthHome, 40, .inl (upd f_lengthHome (Int32.toNatClampNeg n_tb) x_14))), (t_runs, .inl (k_runs, 40, .inl f_runs)), (t_vacuum, .inl (k_vacuum, 40, .inl f_vacuum)), (t_reading, .inl (k_reading, 40, .inl f_reading)), (h0, .inr (10, [.ref t_to, .ref t_height, .ref t_member, .ref t_lengthHome, .ref t_runs, .ref t_leak, .ref t_vacuum, .ref t_reading, .int x_6]))] at hD
      generalize upd f_lengthHome (Int32.toNatClampNeg n_tb) x_14 = g_17 at hP hD
      refine lv_aload_n hx hb dX10_add_75 rfl (lv_at hl 1 rfl) ?_
      refine va_get (D := (dC, dI)) (ci := 10) (v := .ref t_runs) (C := RX10) (T := TX10) (N := 9) hx hb htb iX10 hown hK hP 7 rfl rfl 4 (Nat.le_of_ble_eq_true rfl) (htb _ m_38) (fun _ h9 => h9) rfl dX10_add_76 ?_
      refine lv_iload hx hb dX10_add_79 (lv_at hl 0 rfl) ?_
      refine lv_aload_n hx hb dX10_add_81 rfl (lv_at hl 1 rfl) ?_
      refine va_get (D := (dC, dI)) (ci := 10) (v := .ref t_runs) (C := RX10) (T := TX10) (N := 9) hx hb htb iX10 hown hK hP 7 rfl rfl 4 (Nat.le_of_ble_eq_true rfl) (htb _ m_38) (fun _ h9 => h9) rfl dX10_add_82 ?_
      refine lv_iload_n hx hb dX10_add_85 rfl (lv_at hl 2 rfl) ?_
      refine va_zald hx hb hK hP 4 4 rfl rfl (i_in rfl (lg_X10_add_4 n_tb v1 x_6 yb yv t_2 h_4 t_8)) dX10_add_86 ?_
      refine lv_topi (fun x_18 ex_19 => ?_)
      refine lv_if_eq (tgt := 104) hx hb dX10_add_87 (by decide) (fun c_20 => ?_) (fun c_20 => ?_)
      · have t_21 : x_18.toInt = (0 : Int) := i_eq rfl (by decide) c_20
        refine lv_iconst (v := 0) hx hb dX10_add_104 (by decide) ?_
        refine va_zast hx hb hK hP hD hS 4 4 rfl rfl (i_in rfl (lg_X10_add_5 n_tb v1 x_6 x_18 yb yv t_2 h_4 t_8 t_21)) dX10_add_105 ?_
        clear hP hD hS; intro H locs hP hD hS
        change va_P (dC, dI) vwCl [(t_to, .inl (k_to, 40, .inl g_9)), (t_height, .inl (k_height, 40, .inl g_10)), (t_member, .inl (k_member, 40, .inl g_11)), (t_lengthHome, .inl (k_lengthHome, 40, .inl g_17)), (t_runs, .inl (k_runs, 40, .inl (upd f_runs (Int32.toNatClampNeg n_tb) (vp_nar .boolean 0)))), (t_vacuum, .inl (k_vacuum, 40, .inl f_vacuum)), (t_reading, .inl (k_reading, 40, .inl f_reading)), (h0, .inr (10, [.ref t_to, .ref t_height, .ref t_member, .ref t_lengthHome, .ref t_runs, .ref t_leak, .ref t_vacuum, .ref t_reading, .int x_6]))] H at hP
        change va_D A [(t_to, .inl (k_to, 40, .inl g_9)), (t_height, .inl (k_height, 40, .inl g_10)), (t_member, .inl (k_member, 40, .inl g_11)), (t_lengthHome, .inl (k_lengthHome, 40, .inl g_17)), (t_runs, .inl (k_runs, 40, .inl (upd f_runs (Int32.toNatClampNeg n_tb) (vp_nar .boolean 0)))), (t_vacuum, .inl (k_vacuum, 40, .inl f_vacuum)), (t_reading, .inl (k_reading, 40, .inl f_reading)), (h0, .inr (10, [.ref t_to, .ref t_height, .ref t_member, .ref t_lengthHome, .ref t_runs, .ref t_leak, .ref t_vacuum, .ref t_reading, .int x_6]))] at hD
        generalize upd f_runs (Int32.toNatClampNeg n_tb) (vp_nar .boolean 0) = g_22 at hP hD
        refine lv_aload_n hx hb dX10_add_106 rfl (lv_at hl 1 rfl) ?_
        refine va_get (D := (dC, dI)) (ci := 10) (v := .ref t_vacuum) (C := RX10) (T := TX10) (N := 9) hx hb htb iX10 hown hK hP 7 rfl rfl 6 (Nat.le_of_ble_eq_true rfl) (htb _ m_40) (fun _ h9 => h9) rfl dX10_add_107 ?_
        refine lv_iload hx hb dX10_add_110 (lv_at hl 0 rfl) ?_
        refine lv_aload_n hx hb dX10_add_112 rfl (lv_at hl 1 rfl) ?_
        refine va_get (D := (dC, dI)) (ci := 10) (v := .ref t_vacuum) (C := RX10) (T := TX10) (N := 9) hx hb htb iX10 hown hK hP 7 rfl rfl 6 (Nat.le_of_ble_eq_true rfl) (htb _ m_40) (fun _ h9 => h9) rfl dX10_add_113 ?_
        refine lv_iload_n hx hb dX10_add_116 rfl (lv_at hl 2 rfl) ?_
        refine va_iald hx hb hK hP 5 5 rfl rfl (i_in rfl (lg_X10_add_6 n_tb v1 x_6 x_18 yb yv t_2 h_4 t_8 t_21)) dX10_add_117 ?_
        refine lv_topi (fun x_23 ex_24 => ?_)
        have t_25 : 0 ≤ x_23.toInt ∧ x_23.toInt ≤ 100 := Rg_ld yvac (i_in rfl (lg_X10_add_6 n_tb v1 x_6 x_18 yb yv t_2 h_4 t_8 t_21)) ex_24
        refine va_iast hx hb hK hP hD hS 5 5 rfl rfl (i_in rfl (lg_X10_add_7 n_tb v1 x_6 x_18 x_23 yb yv t_2 h_4 t_8 t_21 t_25)) dX10_add_118 ?_
        clear hP hD hS; intro H locs hP hD hS
        change va_P (dC, dI) vwCl [(t_to, .inl (k_to, 40, .inl g_9)), (t_height, .inl (k_height, 40, .inl g_10)), (t_member, .inl (k_member, 40, .inl g_11)), (t_lengthHome, .inl (k_lengthHome, 40, .inl g_17)), (t_runs, .inl (k_runs, 40, .inl g_22)), (t_vacuum, .inl (k_vacuum, 40, .inl (upd f_vacuum (Int32.toNatClampNeg n_tb) x_23))), (t_reading, .inl (k_reading, 40, .inl f_reading)), (h0, .inr (10, [.ref t_to, .ref t_height, .ref t_member, .ref t_lengthHome, .ref t_runs, .ref t_leak, .ref t_vacuum, .ref t_reading, .int x_6]))] H at hP
        change va_D A [(t_to, .inl (k_to, 40, .inl g_9)), (t_height, .inl (k_height, 40, .inl g_10)), (t_member, .inl (k_member, 40, .inl g_11)), (t_lengthHome, .inl (k_lengthHome, 40, .inl g_17)), (t_runs, .inl (k_runs, 40, .inl g_22)), (t_vacuum, .inl (k_vacuum, 40, .inl (upd f_vacuum (Int32.toNatClampNeg n_tb) x_23))), (t_reading, .inl (k_reading, 40, .inl f_reading)), (h0, .inr (10, [.ref t_to, .ref t_height, .ref t_member, .ref t_lengthHome, .ref t_runs, .ref t_leak, .ref t_vacuum, .ref t_reading, .int x_6]))] at hD
        have hR_27 : Rg (upd f_vacuum (Int32.toNatClampNeg n_tb) x_23) 40 0 100 := Rg_st yvac rfl (lg_X10_add_8 n_tb v1 x_6 x_18 x_23 yb yv t_2 h_4 t_8 t_21 t_25)
        generalize upd f_vacuum (Int32.toNatClampNeg n_tb) x_23 = g_26 at hP hD hR_27
        refine lv_aload_n hx hb dX10_add_119 rfl (lv_at hl 1 rfl) ?_
        refine va_get (D := (dC, dI)) (ci := 10) (v := .ref t_reading) (C := RX10) (T := TX10) (N := 9) hx hb htb iX10 hown hK hP 7 rfl rfl 7 (Nat.le_of_ble_eq_true rfl) (htb _ m_41) (fun _ h9 => h9) rfl dX10_add_120 ?_
        refine lv_iload hx hb dX10_add_123 (lv_at hl 0 rfl) ?_
        refine lv_iconst (v := (-1)) hx hb dX10_add_125 (by decide) ?_
        refine va_iast hx hb hK hP hD hS 6 6 rfl rfl (i_in rfl (lg_X10_add_7 n_tb v1 x_6 x_18 x_23 yb yv t_2 h_4 t_8 t_21 t_25)) dX10_add_126 ?_
        clear hP hD hS; intro H locs hP hD hS
        change va_P (dC, dI) vwCl [(t_to, .inl (k_to, 40, .inl g_9)), (t_height, .inl (k_height, 40, .inl g_10)), (t_member, .inl (k_member, 40, .inl g_11)), (t_lengthHome, .inl (k_lengthHome, 40, .inl g_17)), (t_runs, .inl (k_runs, 40, .inl g_22)), (t_vacuum, .inl (k_vacuum, 40, .inl g_26)), (t_reading, .inl (k_reading, 40, .inl (upd f_reading (Int32.toNatClampNeg n_tb) (-1)))), (h0, .inr (10, [.ref t_to, .ref t_height, .ref t_member, .ref t_lengthHome, .ref t_runs, .ref t_leak, .ref t_vacuum, .ref t_reading, .int x_6]))] H at hP
        change va_D A [(t_to, .inl (k_to, 40, .inl g_9)), (t_height, .inl (k_height, 40, .inl g_10)), (t_member, .inl (k_member, 40, .inl g_11)), (t_lengthHome, .inl (k_lengthHome, 40, .inl g_17)), (t_runs, .inl (k_runs, 40, .inl g_22)), (t_vacuum, .inl (k_vacuum, 40, .inl g_26)), (t_reading, .inl (k_reading, 40, .inl (upd f_reading (Int32.toNatClampNeg n_tb) (-1)))), (h0, .inr (10, [.ref t_to, .ref t_height, .ref t_member, .ref t_lengthHome, .ref t_runs, .ref t_leak, .ref t_vacuum, .ref t_reading, .int x_6]))] at hD
        generalize upd f_reading (Int32.toNatClampNeg n_tb) (-1) = g_28 at hP hD
        refine lv_iload hx hb dX10_add_127 (lv_at hl 0 rfl) ?_
        refine W.widen (k := 0) (n := 0) (Nat.le_of_ble_eq_true rfl) (Nat.le_of_ble_eq_true rfl) ?_
        have hP9 := hP.sub (ws' := [(h0, .inr (10, [.ref t_to, .ref t_height, .ref t_member, .ref t_lengthHome, .ref t_runs, .ref t_leak, .ref t_vacuum, .ref t_reading, .int x_6])), (t_to, .inl (k_to, 40, .inl g_9)), (t_height, .inl (k_height, 40, .inl g_10)), (t_member, .inl (k_member, 40, .inl g_11)), (t_lengthHome, .inl (k_lengthHome, 40, .inl g_17)), (t_runs, .inl (k_runs, 40, .inl g_22)), (t_vacuum, .inl (k_vacuum, 40, .inl g_26)), (t_reading, .inl (k_reading, 40, .inl g_28))]) [7, 0, 1, 2, 3, 4, 5, 6] rfl
        have hD9 := hD.sub (ws' := [(h0, .inr (10, [.ref t_to, .ref t_height, .ref t_member, .ref t_lengthHome, .ref t_runs, .ref t_leak, .ref t_vacuum, .ref t_reading, .int x_6])), (t_to, .inl (k_to, 40, .inl g_9)), (t_height, .inl (k_height, 40, .inl g_10)), (t_member, .inl (k_member, 40, .inl g_11)), (t_lengthHome, .inl (k_lengthHome, 40, .inl g_17)), (t_runs, .inl (k_runs, 40, .inl g_22)), (t_vacuum, .inl (k_vacuum, 40, .inl g_26)), (t_reading, .inl (k_reading, 40, .inl g_28))]) [7, 0, 1, 2, 3, 4, 5, 6] (by decide) rfl
        have hK9 := hK.sub (tys' := []) [] rfl
        exact W.iret (v := n_tb) hx hb hr (fun t ht hW => ⟨⟨n_tb, (), rfl, (lg_X10_add_10 n_tb v1 x_6 x_18 x_23 yb yv t_2 h_4 t_8 t_21 t_25), ⟨x_6, g_9, g_10, g_11, g_17, g_22, g_26, g_28, (lg_X10_add_9 n_tb v1 x_6 x_18 x_23 yb yv t_2 h_4 t_8 t_21 t_25), hR_27, by rw [ht]; exact hP9, va_K.moved hW.alike hK9, hD9⟩⟩, hS.F ht⟩) hS.2.2 dX10_add_129
      · have t_21 : ¬ x_18.toInt = (0 : Int) := i_ne rfl (by decide) c_20
        refine lv_iload_n hx hb dX10_add_90 rfl (lv_at hl 4 rfl) ?_
        refine lv_aload_n hx hb dX10_add_91 rfl (lv_at hl 1 rfl) ?_
        refine va_get (D := (dC, dI)) (ci := 10) (v := .ref t_height) (C := RX10) (T := TX10) (N := 9) hx hb htb iX10 hown hK hP 7 rfl rfl 1 (Nat.le_of_ble_eq_true rfl) (htb _ m_35) (fun _ h9 => h9) rfl dX10_add_92 ?_
        refine lv_iload_n hx hb dX10_add_95 rfl (lv_at hl 2 rfl) ?_
        refine va_iald hx hb hK hP 1 1 rfl rfl (i_in rfl (lg_X10_add_11 n_tb v1 x_6 x_18 yb yv t_2 h_4 t_8 t_21)) dX10_add_96 ?_
        refine lv_topi (fun x_29 ex_30 => ?_)
        refine lv_icmp_le (tgt := 104) hx hb dX10_add_97 (by decide) (fun c_31 => ?_) (fun c_31 => ?_)
        · have t_32 : v3.toInt ≤ x_29.toInt := i_le rfl rfl c_31
          refine lv_iconst (v := 0) hx hb dX10_add_104 (by decide) ?_
          refine va_zast hx hb hK hP hD hS 4 4 rfl rfl (i_in rfl (lg_X10_add_12 n_tb v1 v3 x_6 x_18 x_29 yb yv t_2 h_4 t_8 t_21 t_32)) dX10_add_105 ?_
          clear hP hD hS; intro H locs hP hD hS
          change va_P (dC, dI) vwCl [(t_to, .inl (k_to, 40, .inl g_9)), (t_height, .inl (k_height, 40, .inl g_10)), (t_member, .inl (k_member, 40, .inl g_11)), (t_lengthHome, .inl (k_lengthHome, 40, .inl g_17)), (t_runs, .inl (k_runs, 40, .inl (upd f_runs (Int32.toNatClampNeg n_tb) (vp_nar .boolean 0)))), (t_vacuum, .inl (k_vacuum, 40, .inl f_vacuum)), (t_reading, .inl (k_reading, 40, .inl f_reading)), (h0, .inr (10, [.ref t_to, .ref t_height, .ref t_member, .ref t_lengthHome, .ref t_runs, .ref t_leak, .ref t_vacuum, .ref t_reading, .int x_6]))] H at hP
          change va_D A [(t_to, .inl (k_to, 40, .inl g_9)), (t_height, .inl (k_height, 40, .inl g_10)), (t_member, .inl (k_member, 40, .inl g_11)), (t_lengthHome, .inl (k_lengthHome, 40, .inl g_17)), (t_runs, .inl (k_runs, 40, .inl (upd f_runs (Int32.toNatClampNeg n_tb) (vp_nar .boolean 0)))), (t_vacuum, .inl (k_vacuum, 40, .inl f_vacuum)), (t_reading, .inl (k_reading, 40, .inl f_reading)), (h0, .inr (10, [.ref t_to, .ref t_height, .ref t_member, .ref t_lengthHome, .ref t_runs, .ref t_leak, .ref t_vacuum, .ref t_reading, .int x_6]))] at hD
          generalize upd f_runs (Int32.toNatClampNeg n_tb) (vp_nar .boolean 0) = g_33 at hP hD
          refine lv_aload_n hx hb dX10_add_106 rfl (lv_at hl 1 rfl) ?_
          refine va_get (D := (dC, dI)) (ci := 10) (v := .ref t_vacuum) (C := RX10) (T := TX10) (N := 9) hx hb htb iX10 hown hK hP 7 rfl rfl 6 (Nat.le_of_ble_eq_true rfl) (htb _ m_40) (fun _ h9 => h9) rfl dX10_add_107 ?_
          refine lv_iload hx hb dX10_add_110 (lv_at hl 0 rfl) ?_
          refine lv_aload_n hx hb dX10_add_112 rfl (lv_at hl 1 rfl) ?_
          refine va_get (D := (dC, dI)) (ci := 10) (v := .ref t_vacuum) (C := RX10) (T := TX10) (N := 9) hx hb htb iX10 hown hK hP 7 rfl rfl 6 (Nat.le_of_ble_eq_true rfl) (htb _ m_40) (fun _ h9 => h9) rfl dX10_add_113 ?_
          refine lv_iload_n hx hb dX10_add_116 rfl (lv_at hl 2 rfl) ?_
          refine va_iald hx hb hK hP 5 5 rfl rfl (i_in rfl (lg_X10_add_13 n_tb v1 v3 x_6 x_18 x_29 yb yv t_2 h_4 t_8 t_21 t_32)) dX10_add_117 ?_
          refine lv_topi (fun x_34 ex_35 => ?_)
          have t_36 : 0 ≤ x_34.toInt ∧ x_34.toInt ≤ 100 := Rg_ld yvac (i_in rfl (lg_X10_add_13 n_tb v1 v3 x_6 x_18 x_29 yb yv t_2 h_4 t_8 t_21 t_32)) ex_35
          refine va_iast hx hb hK hP hD hS 5 5 rfl rfl (i_in rfl (lg_X10_add_14 n_tb v1 v3 x_6 x_18 x_29 x_34 yb yv t_2 h_4 t_8 t_21 t_32 t_36)) dX10_add_118 ?_
          clear hP hD hS; intro H locs hP hD hS
          change va_P (dC, dI) vwCl [(t_to, .inl (k_to, 40, .inl g_9)), (t_height, .inl (k_height, 40, .inl g_10)), (t_member, .inl (k_member, 40, .inl g_11)), (t_lengthHome, .inl (k_lengthHome, 40, .inl g_17)), (t_runs, .inl (k_runs, 40, .inl g_33)), (t_vacuum, .inl (k_vacuum, 40, .inl (upd f_vacuum (Int32.toNatClampNeg n_tb) x_34))), (t_reading, .inl (k_reading, 40, .inl f_reading)), (h0, .inr (10, [.ref t_to, .ref t_height, .ref t_member, .ref t_lengthHome, .ref t_runs, .ref t_leak, .ref t_vacuum, .ref t_reading, .int x_6]))] H at hP
          change va_D A [(t_to, .inl (k_to, 40, .inl g_9)), (t_height, .inl (k_height, 40, .inl g_10)), (t_member, .inl (k_member, 40, .inl g_11)), (t_lengthHome, .inl (k_lengthHome, 40, .inl g_17)), (t_runs, .inl (k_runs, 40, .inl g_33)), (t_vacuum, .inl (k_vacuum, 40, .inl (upd f_vacuum (Int32.toNatClampNeg n_tb) x_34))), (t_reading, .inl (k_reading, 40, .inl f_reading)), (h0, .inr (10, [.ref t_to, .ref t_height, .ref t_member, .ref t_lengthHome, .ref t_runs, .ref t_leak, .ref t_vacuum, .ref t_reading, .int x_6]))] at hD
          have hR_38 : Rg (upd f_vacuum (Int32.toNatClampNeg n_tb) x_34) 40 0 100 := Rg_st yvac rfl (lg_X10_add_15 n_tb v1 v3 x_6 x_18 x_29 x_34 yb yv t_2 h_4 t_8 t_21 t_32 t_36)
          generalize upd f_vacuum (Int32.toNatClampNeg n_tb) x_34 = g_37 at hP hD hR_38
          refine lv_aload_n hx hb dX10_add_119 rfl (lv_at hl 1 rfl) ?_
          refine va_get (D := (dC, dI)) (ci := 10) (v := .ref t_reading) (C := RX10) (T := TX10) (N := 9) hx hb htb iX10 hown hK hP 7 rfl rfl 7 (Nat.le_of_ble_eq_true rfl) (htb _ m_41) (fun _ h9 => h9) rfl dX10_add_120 ?_
          refine lv_iload hx hb dX10_add_123 (lv_at hl 0 rfl) ?_
          refine lv_iconst (v := (-1)) hx hb dX10_add_125 (by decide) ?_
          refine va_iast hx hb hK hP hD hS 6 6 rfl rfl (i_in rfl (lg_X10_add_14 n_tb v1 v3 x_6 x_18 x_29 x_34 yb yv t_2 h_4 t_8 t_21 t_32 t_36)) dX10_add_126 ?_
          clear hP hD hS; intro H locs hP hD hS
          change va_P (dC, dI) vwCl [(t_to, .inl (k_to, 40, .inl g_9)), (t_height, .inl (k_height, 40, .inl g_10)), (t_member, .inl (k_member, 40, .inl g_11)), (t_lengthHome, .inl (k_lengthHome, 40, .inl g_17)), (t_runs, .inl (k_runs, 40, .inl g_33)), (t_vacuum, .inl (k_vacuum, 40, .inl g_37)), (t_reading, .inl (k_reading, 40, .inl (upd f_reading (Int32.toNatClampNeg n_tb) (-1)))), (h0, .inr (10, [.ref t_to, .ref t_height, .ref t_member, .ref t_lengthHome, .ref t_runs, .ref t_leak, .ref t_vacuum, .ref t_reading, .int x_6]))] H at hP
          change va_D A [(t_to, .inl (k_to, 40, .inl g_9)), (t_height, .inl (k_height, 40, .inl g_10)), (t_member, .inl (k_member, 40, .inl g_11)), (t_lengthHome, .inl (k_lengthHome, 40, .inl g_17)), (t_runs, .inl (k_runs, 40, .inl g_33)), (t_vacuum, .inl (k_vacuum, 40, .inl g_37)), (t_reading, .inl (k_reading, 40, .inl (upd f_reading (Int32.toNatClampNeg n_tb) (-1)))), (h0, .inr (10, [.ref t_to, .ref t_height, .ref t_member, .ref t_lengthHome, .ref t_runs, .ref t_leak, .ref t_vacuum, .ref t_reading, .int x_6]))] at hD
          generalize upd f_reading (Int32.toNatClampNeg n_tb) (-1) = g_39 at hP hD
          refine lv_iload hx hb dX10_add_127 (lv_at hl 0 rfl) ?_
          refine W.widen (k := 0) (n := 0) (Nat.le_of_ble_eq_true rfl) (Nat.le_of_ble_eq_true rfl) ?_
          have hP9 := hP.sub (ws' := [(h0, .inr (10, [.ref t_to, .ref t_height, .ref t_member, .ref t_lengthHome, .ref t_runs, .ref t_leak, .ref t_vacuum, .ref t_reading, .int x_6])), (t_to, .inl (k_to, 40, .inl g_9)), (t_height, .inl (k_height, 40, .inl g_10)), (t_member, .inl (k_member, 40, .inl g_11)), (t_lengthHome, .inl (k_lengthHome, 40, .inl g_17)), (t_runs, .inl (k_runs, 40, .inl g_33)), (t_vacuum, .inl (k_vacuum, 40, .inl g_37)), (t_reading, .inl (k_reading, 40, .inl g_39))]) [7, 0, 1, 2, 3, 4, 5, 6] rfl
          have hD9 := hD.sub (ws' := [(h0, .inr (10, [.ref t_to, .ref t_height, .ref t_member, .ref t_lengthHome, .ref t_runs, .ref t_leak, .ref t_vacuum, .ref t_reading, .int x_6])), (t_to, .inl (k_to, 40, .inl g_9)), (t_height, .inl (k_height, 40, .inl g_10)), (t_member, .inl (k_member, 40, .inl g_11)), (t_lengthHome, .inl (k_lengthHome, 40, .inl g_17)), (t_runs, .inl (k_runs, 40, .inl g_33)), (t_vacuum, .inl (k_vacuum, 40, .inl g_37)), (t_reading, .inl (k_reading, 40, .inl g_39))]) [7, 0, 1, 2, 3, 4, 5, 6] (by decide) rfl
          have hK9 := hK.sub (tys' := []) [] rfl
          exact W.iret (v := n_tb) hx hb hr (fun t ht hW => ⟨⟨n_tb, (), rfl, (lg_X10_add_17 n_tb v1 v3 x_6 x_18 x_29 x_34 yb yv t_2 h_4 t_8 t_21 t_32 t_36), ⟨x_6, g_9, g_10, g_11, g_17, g_33, g_37, g_39, (lg_X10_add_16 n_tb v1 v3 x_6 x_18 x_29 x_34 yb yv t_2 h_4 t_8 t_21 t_32 t_36), hR_38, by rw [ht]; exact hP9, va_K.moved hW.alike hK9, hD9⟩⟩, hS.F ht⟩) hS.2.2 dX10_add_129
        · have t_32 : x_29.toInt < v3.toInt := i_nle rfl rfl c_31
          refine lv_iconst (v := 1) hx hb dX10_add_100 (by decide) ?_
          refine lv_goto (tgt := 105) hx hb dX10_add_101 (by decide) ?_
          refine va_zast hx hb hK hP hD hS 4 4 rfl rfl (i_in rfl (lg_X10_add_18 n_tb v1 v3 x_6 x_18 x_29 yb yv t_2 h_4 t_8 t_21 t_32)) dX10_add_105 ?_
          clear hP hD hS; intro H locs hP hD hS
          change va_P (dC, dI) vwCl [(t_to, .inl (k_to, 40, .inl g_9)), (t_height, .inl (k_height, 40, .inl g_10)), (t_member, .inl (k_member, 40, .inl g_11)), (t_lengthHome, .inl (k_lengthHome, 40, .inl g_17)), (t_runs, .inl (k_runs, 40, .inl (upd f_runs (Int32.toNatClampNeg n_tb) (vp_nar .boolean 1)))), (t_vacuum, .inl (k_vacuum, 40, .inl f_vacuum)), (t_reading, .inl (k_reading, 40, .inl f_reading)), (h0, .inr (10, [.ref t_to, .ref t_height, .ref t_member, .ref t_lengthHome, .ref t_runs, .ref t_leak, .ref t_vacuum, .ref t_reading, .int x_6]))] H at hP
          change va_D A [(t_to, .inl (k_to, 40, .inl g_9)), (t_height, .inl (k_height, 40, .inl g_10)), (t_member, .inl (k_member, 40, .inl g_11)), (t_lengthHome, .inl (k_lengthHome, 40, .inl g_17)), (t_runs, .inl (k_runs, 40, .inl (upd f_runs (Int32.toNatClampNeg n_tb) (vp_nar .boolean 1)))), (t_vacuum, .inl (k_vacuum, 40, .inl f_vacuum)), (t_reading, .inl (k_reading, 40, .inl f_reading)), (h0, .inr (10, [.ref t_to, .ref t_height, .ref t_member, .ref t_lengthHome, .ref t_runs, .ref t_leak, .ref t_vacuum, .ref t_reading, .int x_6]))] at hD
          generalize upd f_runs (Int32.toNatClampNeg n_tb) (vp_nar .boolean 1) = g_40 at hP hD
          refine lv_aload_n hx hb dX10_add_106 rfl (lv_at hl 1 rfl) ?_
          refine va_get (D := (dC, dI)) (ci := 10) (v := .ref t_vacuum) (C := RX10) (T := TX10) (N := 9) hx hb htb iX10 hown hK hP 7 rfl rfl 6 (Nat.le_of_ble_eq_true rfl) (htb _ m_40) (fun _ h9 => h9) rfl dX10_add_107 ?_
          refine lv_iload hx hb dX10_add_110 (lv_at hl 0 rfl) ?_
          refine lv_aload_n hx hb dX10_add_112 rfl (lv_at hl 1 rfl) ?_
          refine va_get (D := (dC, dI)) (ci := 10) (v := .ref t_vacuum) (C := RX10) (T := TX10) (N := 9) hx hb htb iX10 hown hK hP 7 rfl rfl 6 (Nat.le_of_ble_eq_true rfl) (htb _ m_40) (fun _ h9 => h9) rfl dX10_add_113 ?_
          refine lv_iload_n hx hb dX10_add_116 rfl (lv_at hl 2 rfl) ?_
          refine va_iald hx hb hK hP 5 5 rfl rfl (i_in rfl (lg_X10_add_19 n_tb v1 v3 x_6 x_18 x_29 yb yv t_2 h_4 t_8 t_21 t_32)) dX10_add_117 ?_
          refine lv_topi (fun x_41 ex_42 => ?_)
          have t_43 : 0 ≤ x_41.toInt ∧ x_41.toInt ≤ 100 := Rg_ld yvac (i_in rfl (lg_X10_add_19 n_tb v1 v3 x_6 x_18 x_29 yb yv t_2 h_4 t_8 t_21 t_32)) ex_42
          refine va_iast hx hb hK hP hD hS 5 5 rfl rfl (i_in rfl (lg_X10_add_20 n_tb v1 v3 x_6 x_18 x_29 x_41 yb yv t_2 h_4 t_8 t_21 t_32 t_43)) dX10_add_118 ?_
          clear hP hD hS; intro H locs hP hD hS
          change va_P (dC, dI) vwCl [(t_to, .inl (k_to, 40, .inl g_9)), (t_height, .inl (k_height, 40, .inl g_10)), (t_member, .inl (k_member, 40, .inl g_11)), (t_lengthHome, .inl (k_lengthHome, 40, .inl g_17)), (t_runs, .inl (k_runs, 40, .inl g_40)), (t_vacuum, .inl (k_vacuum, 40, .inl (upd f_vacuum (Int32.toNatClampNeg n_tb) x_41))), (t_reading, .inl (k_reading, 40, .inl f_reading)), (h0, .inr (10, [.ref t_to, .ref t_height, .ref t_member, .ref t_lengthHome, .ref t_runs, .ref t_leak, .ref t_vacuum, .ref t_reading, .int x_6]))] H at hP
          change va_D A [(t_to, .inl (k_to, 40, .inl g_9)), (t_height, .inl (k_height, 40, .inl g_10)), (t_member, .inl (k_member, 40, .inl g_11)), (t_lengthHome, .inl (k_lengthHome, 40, .inl g_17)), (t_runs, .inl (k_runs, 40, .inl g_40)), (t_vacuum, .inl (k_vacuum, 40, .inl (upd f_vacuum (Int32.toNatClampNeg n_tb) x_41))), (t_reading, .inl (k_reading, 40, .inl f_reading)), (h0, .inr (10, [.ref t_to, .ref t_height, .ref t_member, .ref t_lengthHome, .ref t_runs, .ref t_leak, .ref t_vacuum, .ref t_reading, .int x_6]))] at hD
          have hR_45 : Rg (upd f_vacuum (Int32.toNatClampNeg n_tb) x_41) 40 0 100 := Rg_st yvac rfl (lg_X10_add_21 n_tb v1 v3 x_6 x_18 x_29 x_41 yb yv t_2 h_4 t_8 t_21 t_32 t_43)
          generalize upd f_vacuum (Int32.toNatClampNeg n_tb) x_41 = g_44 at hP hD hR_45
          refine lv_aload_n hx hb dX10_add_119 rfl (lv_at hl 1 rfl) ?_
          refine va_get (D := (dC, dI)) (ci := 10) (v := .ref t_reading) (C := RX10) (T := TX10) (N := 9) hx hb htb iX10 hown hK hP 7 rfl rfl 7 (Nat.le_of_ble_eq_true rfl) (htb _ m_41) (fun _ h9 => h9) rfl dX10_add_120 ?_
          refine lv_iload hx hb dX10_add_123 (lv_at hl 0 rfl) ?_
          refine lv_iconst (v := (-1)) hx hb dX10_add_125 (by decide) ?_
          refine va_iast hx hb hK hP hD hS 6 6 rfl rfl (i_in rfl (lg_X10_add_20 n_tb v1 v3 x_6 x_18 x_29 x_41 yb yv t_2 h_4 t_8 t_21 t_32 t_43)) dX10_add_126 ?_
          clear hP hD hS; intro H locs hP hD hS
          change va_P (dC, dI) vwCl [(t_to, .inl (k_to, 40, .inl g_9)), (t_height, .inl (k_height, 40, .inl g_10)), (t_member, .inl (k_member, 40, .inl g_11)), (t_lengthHome, .inl (k_lengthHome, 40, .inl g_17)), (t_runs, .inl (k_runs, 40, .inl g_40)), (t_vacuum, .inl (k_vacuum, 40, .inl g_44)), (t_reading, .inl (k_reading, 40, .inl (upd f_reading (Int32.toNatClampNeg n_tb) (-1)))), (h0, .inr (10, [.ref t_to, .ref t_height, .ref t_member, .ref t_lengthHome, .ref t_runs, .ref t_leak, .ref t_vacuum, .ref t_reading, .int x_6]))] H at hP
          change va_D A [(t_to, .inl (k_to, 40, .inl g_9)), (t_height, .inl (k_height, 40, .inl g_10)), (t_member, .inl (k_member, 40, .inl g_11)), (t_lengthHome, .inl (k_lengthHome, 40, .inl g_17)), (t_runs, .inl (k_runs, 40, .inl g_40)), (t_vacuum, .inl (k_vacuum, 40, .inl g_44)), (t_reading, .inl (k_reading, 40, .inl (upd f_reading (Int32.toNatClampNeg n_tb) (-1)))), (h0, .inr (10, [.ref t_to, .ref t_height, .ref t_member, .ref t_lengthHome, .ref t_runs, .ref t_leak, .ref t_vacuum, .ref t_reading, .int x_6]))] at hD
          generalize upd f_reading (Int32.toNatClampNeg n_tb) (-1) = g_46 at hP hD
          refine lv_iload hx hb dX10_add_127 (lv_at hl 0 rfl) ?_
          refine W.widen (k := 0) (n := 0) (Nat.le_of_ble_eq_true rfl) (Nat.le_of_ble_eq_true rfl) ?_
          have hP9 := hP.sub (ws' := [(h0, .inr (10, [.ref t_to, .ref t_height, .ref t_member, .ref t_lengthHome, .ref t_runs, .ref t_leak, .ref t_vacuum, .ref t_reading, .int x_6])), (t_to, .inl (k_to, 40, .inl g_9)), (t_height, .inl (k_height, 40, .inl g_10)), (t_member, .inl (k_member, 40, .inl g_11)), (t_lengthHome, .inl (k_lengthHome, 40, .inl g_17)), (t_runs, .inl (k_runs, 40, .inl g_40)), (t_vacuum, .inl (k_vacuum, 40, .inl g_44)), (t_reading, .inl (k_reading, 40, .inl g_46))]) [7, 0, 1, 2, 3, 4, 5, 6] rfl
          have hD9 := hD.sub (ws' := [(h0, .inr (10, [.ref t_to, .ref t_height, .ref t_member, .ref t_lengthHome, .ref t_runs, .ref t_leak, .ref t_vacuum, .ref t_reading, .int x_6])), (t_to, .inl (k_to, 40, .inl g_9)), (t_height, .inl (k_height, 40, .inl g_10)), (t_member, .inl (k_member, 40, .inl g_11)), (t_lengthHome, .inl (k_lengthHome, 40, .inl g_17)), (t_runs, .inl (k_runs, 40, .inl g_40)), (t_vacuum, .inl (k_vacuum, 40, .inl g_44)), (t_reading, .inl (k_reading, 40, .inl g_46))]) [7, 0, 1, 2, 3, 4, 5, 6] (by decide) rfl
          have hK9 := hK.sub (tys' := []) [] rfl
          exact W.iret (v := n_tb) hx hb hr (fun t ht hW => ⟨⟨n_tb, (), rfl, (lg_X10_add_23 n_tb v1 v3 x_6 x_18 x_29 x_41 yb yv t_2 h_4 t_8 t_21 t_32 t_43), ⟨x_6, g_9, g_10, g_11, g_17, g_40, g_44, g_46, (lg_X10_add_22 n_tb v1 v3 x_6 x_18 x_29 x_41 yb yv t_2 h_4 t_8 t_21 t_32 t_43), hR_45, by rw [ht]; exact hP9, va_K.moved hW.alike hK9, hD9⟩⟩, hS.F ht⟩) hS.2.2 dX10_add_129
    · refine lv_if_ne (tgt := 19) hx hb dX10_add_14 (by decide) (fun c_47 => absurd (by decide) c_47) ?_
      intro _
      refine lv_iconst (v := (-1)) hx hb dX10_add_17 (by decide) ?_
      refine W.widen (k := 0) (n := 0) (Nat.le_of_ble_eq_true rfl) (Nat.le_of_ble_eq_true rfl) ?_
      have hP9 := hP.sub (ws' := [(h0, .inr (10, [.ref t_to, .ref t_height, .ref t_member, .ref t_lengthHome, .ref t_runs, .ref t_leak, .ref t_vacuum, .ref t_reading, .int n_tb])), (t_to, .inl (k_to, 40, .inl f_to)), (t_height, .inl (k_height, 40, .inl f_height)), (t_member, .inl (k_member, 40, .inl f_member)), (t_lengthHome, .inl (k_lengthHome, 40, .inl f_lengthHome)), (t_runs, .inl (k_runs, 40, .inl f_runs)), (t_vacuum, .inl (k_vacuum, 40, .inl f_vacuum)), (t_reading, .inl (k_reading, 40, .inl f_reading))]) [7, 0, 1, 2, 3, 4, 5, 6] rfl
      have hD9 := hD.sub (ws' := [(h0, .inr (10, [.ref t_to, .ref t_height, .ref t_member, .ref t_lengthHome, .ref t_runs, .ref t_leak, .ref t_vacuum, .ref t_reading, .int n_tb])), (t_to, .inl (k_to, 40, .inl f_to)), (t_height, .inl (k_height, 40, .inl f_height)), (t_member, .inl (k_member, 40, .inl f_member)), (t_lengthHome, .inl (k_lengthHome, 40, .inl f_lengthHome)), (t_runs, .inl (k_runs, 40, .inl f_runs)), (t_vacuum, .inl (k_vacuum, 40, .inl f_vacuum)), (t_reading, .inl (k_reading, 40, .inl f_reading))]) [7, 0, 1, 2, 3, 4, 5, 6] (by decide) rfl
      have hK9 := hK.sub (tys' := []) [] rfl
      exact W.iret (v := (-1)) hx hb hr (fun t ht hW => ⟨⟨(-1), (), rfl, (lg_X10_add_25 n_tb v1 yb yv t_2 h_4), ⟨n_tb, f_to, f_height, f_member, f_lengthHome, f_runs, f_vacuum, f_reading, (lg_X10_add_24 n_tb v1 yb yv t_2 h_4), yvac, by rw [ht]; exact hP9, va_K.moved hW.alike hK9, hD9⟩⟩, hS.F ht⟩) hS.2.2 dX10_add_18

theorem lg_X10_tell_0 (n_tb : Int32) (v1 : Int32) (v2 : Int32) (yb : 1 ≤ n_tb.toInt ∧ n_tb.toInt ≤ 40) (h_2 : 0 ≤ v1.toInt ∧ v1.toInt < n_tb.toInt) (e_4 : v2 = 0) : 0 ≤ v1.toInt ∧ v1.toInt < ((40 : Nat) : Int) := by
  have := rg_rng n_tb; have := rg_rng v1; omega
theorem lg_X10_tell_1 (n_tb : Int32) (v1 : Int32) (v2 : Int32) (yb : 1 ≤ n_tb.toInt ∧ n_tb.toInt ≤ 40) (h_2 : 0 ≤ v1.toInt ∧ v1.toInt < n_tb.toInt) (e_4 : v2 = 0) : True := by
  have := rg_rng n_tb; have := rg_rng v1; trivial
theorem lg_X10_tell_2 (n_tb : Int32) (v1 : Int32) (v2 : Int32) (yb : 1 ≤ n_tb.toInt ∧ n_tb.toInt ≤ 40) (h_2 : 0 ≤ v1.toInt ∧ v1.toInt < n_tb.toInt) (e_4 : ¬ v2 = 0) (e_7 : v2 = 1) : 0 ≤ v1.toInt ∧ v1.toInt < ((40 : Nat) : Int) := by
  have := rg_rng n_tb; have := rg_rng v1; omega
theorem lg_X10_tell_3 (n_tb : Int32) (v1 : Int32) (v2 : Int32) (yb : 1 ≤ n_tb.toInt ∧ n_tb.toInt ≤ 40) (h_2 : 0 ≤ v1.toInt ∧ v1.toInt < n_tb.toInt) (e_4 : ¬ v2 = 0) (e_7 : v2 = 1) : True := by
  have := rg_rng n_tb; have := rg_rng v1; trivial
theorem lg_X10_tell_4 (n_tb : Int32) (v1 : Int32) (v2 : Int32) (yb : 1 ≤ n_tb.toInt ∧ n_tb.toInt ≤ 40) (h_2 : 0 ≤ v1.toInt ∧ v1.toInt < n_tb.toInt) (e_4 : ¬ v2 = 0) (e_7 : ¬ v2 = 1) (e_10 : v2 = 2) : 0 ≤ v1.toInt ∧ v1.toInt < ((40 : Nat) : Int) := by
  have := rg_rng n_tb; have := rg_rng v1; omega
theorem lg_X10_tell_5 (n_tb : Int32) (v1 : Int32) (v2 : Int32) (x_11 : Int32) (yb : 1 ≤ n_tb.toInt ∧ n_tb.toInt ≤ 40) (h_2 : 0 ≤ v1.toInt ∧ v1.toInt < n_tb.toInt) (e_4 : ¬ v2 = 0) (e_7 : ¬ v2 = 1) (e_10 : v2 = 2) (t_14 : x_11.toInt = (0 : Int)) : True := by
  have := rg_rng n_tb; have := rg_rng v1; have := rg_rng x_11; trivial
theorem lg_X10_tell_6 (n_tb : Int32) (v1 : Int32) (v2 : Int32) (x_11 : Int32) (yb : 1 ≤ n_tb.toInt ∧ n_tb.toInt ≤ 40) (h_2 : 0 ≤ v1.toInt ∧ v1.toInt < n_tb.toInt) (e_4 : ¬ v2 = 0) (e_7 : ¬ v2 = 1) (e_10 : v2 = 2) (t_14 : ¬ x_11.toInt = (0 : Int)) : True := by
  have := rg_rng n_tb; have := rg_rng v1; have := rg_rng x_11; trivial
theorem lg_X10_tell_7 (n_tb : Int32) (v1 : Int32) (v2 : Int32) (yb : 1 ≤ n_tb.toInt ∧ n_tb.toInt ≤ 40) (h_2 : 0 ≤ v1.toInt ∧ v1.toInt < n_tb.toInt) (e_4 : ¬ v2 = 0) (e_7 : ¬ v2 = 1) (e_10 : ¬ v2 = 2) (e_15 : v2 = 3) : 0 ≤ v1.toInt ∧ v1.toInt < ((40 : Nat) : Int) := by
  have := rg_rng n_tb; have := rg_rng v1; omega
theorem lg_X10_tell_8 (n_tb : Int32) (v1 : Int32) (v2 : Int32) (yb : 1 ≤ n_tb.toInt ∧ n_tb.toInt ≤ 40) (h_2 : 0 ≤ v1.toInt ∧ v1.toInt < n_tb.toInt) (e_4 : ¬ v2 = 0) (e_7 : ¬ v2 = 1) (e_10 : ¬ v2 = 2) (e_15 : v2 = 3) : True := by
  have := rg_rng n_tb; have := rg_rng v1; trivial
theorem lg_X10_tell_9 (n_tb : Int32) (v1 : Int32) (v2 : Int32) (yb : 1 ≤ n_tb.toInt ∧ n_tb.toInt ≤ 40) (h_2 : 0 ≤ v1.toInt ∧ v1.toInt < n_tb.toInt) (e_4 : ¬ v2 = 0) (e_7 : ¬ v2 = 1) (e_10 : ¬ v2 = 2) (e_15 : ¬ v2 = 3) (e_18 : v2 = 4) : 0 ≤ v1.toInt ∧ v1.toInt < ((40 : Nat) : Int) := by
  have := rg_rng n_tb; have := rg_rng v1; omega
theorem lg_X10_tell_10 (n_tb : Int32) (v1 : Int32) (v2 : Int32) (yb : 1 ≤ n_tb.toInt ∧ n_tb.toInt ≤ 40) (h_2 : 0 ≤ v1.toInt ∧ v1.toInt < n_tb.toInt) (e_4 : ¬ v2 = 0) (e_7 : ¬ v2 = 1) (e_10 : ¬ v2 = 2) (e_15 : ¬ v2 = 3) (e_18 : v2 = 4) : True := by
  have := rg_rng n_tb; have := rg_rng v1; trivial
theorem lg_X10_tell_11 (n_tb : Int32) (v1 : Int32) (v2 : Int32) (yb : 1 ≤ n_tb.toInt ∧ n_tb.toInt ≤ 40) (h_2 : 0 ≤ v1.toInt ∧ v1.toInt < n_tb.toInt) (e_4 : ¬ v2 = 0) (e_7 : ¬ v2 = 1) (e_10 : ¬ v2 = 2) (e_15 : ¬ v2 = 3) (e_18 : ¬ v2 = 4) (e_21 : v2 = 5) (h_23 : True) : True := by
  have := rg_rng n_tb; have := rg_rng v1; trivial
theorem lg_X10_tell_12 (n_tb : Int32) (v1 : Int32) (v2 : Int32) (yb : 1 ≤ n_tb.toInt ∧ n_tb.toInt ≤ 40) (h_2 : 0 ≤ v1.toInt ∧ v1.toInt < n_tb.toInt) (e_4 : ¬ v2 = 0) (e_7 : ¬ v2 = 1) (e_10 : ¬ v2 = 2) (e_15 : ¬ v2 = 3) (e_18 : ¬ v2 = 4) (e_21 : ¬ v2 = 5) (e_24 : v2 = 6) : True := by
  have := rg_rng n_tb; have := rg_rng v1; trivial
theorem lg_X10_tell_13 (n_tb : Int32) (v1 : Int32) (v2 : Int32) (yb : 1 ≤ n_tb.toInt ∧ n_tb.toInt ≤ 40) (h_2 : 0 ≤ v1.toInt ∧ v1.toInt < n_tb.toInt) (e_4 : ¬ v2 = 0) (e_7 : ¬ v2 = 1) (e_10 : ¬ v2 = 2) (e_15 : ¬ v2 = 3) (e_18 : ¬ v2 = 4) (e_21 : ¬ v2 = 5) (e_24 : ¬ v2 = 6) (e_25 : v2 = 7) : 0 ≤ v1.toInt ∧ v1.toInt < ((40 : Nat) : Int) := by
  have := rg_rng n_tb; have := rg_rng v1; omega
theorem lg_X10_tell_14 (n_tb : Int32) (v1 : Int32) (v2 : Int32) (yb : 1 ≤ n_tb.toInt ∧ n_tb.toInt ≤ 40) (h_2 : 0 ≤ v1.toInt ∧ v1.toInt < n_tb.toInt) (e_4 : ¬ v2 = 0) (e_7 : ¬ v2 = 1) (e_10 : ¬ v2 = 2) (e_15 : ¬ v2 = 3) (e_18 : ¬ v2 = 4) (e_21 : ¬ v2 = 5) (e_24 : ¬ v2 = 6) (e_25 : v2 = 7) : True := by
  have := rg_rng n_tb; have := rg_rng v1; trivial
theorem lg_X10_tell_15 (n_tb : Int32) (v1 : Int32) (v2 : Int32) (yb : 1 ≤ n_tb.toInt ∧ n_tb.toInt ≤ 40) (h_2 : 0 ≤ v1.toInt ∧ v1.toInt < n_tb.toInt) (e_4 : ¬ v2 = 0) (e_7 : ¬ v2 = 1) (e_10 : ¬ v2 = 2) (e_15 : ¬ v2 = 3) (e_18 : ¬ v2 = 4) (e_21 : ¬ v2 = 5) (e_24 : ¬ v2 = 6) (e_25 : ¬ v2 = 7) (e_28 : v2 = 8) : 0 ≤ v1.toInt ∧ v1.toInt < ((40 : Nat) : Int) := by
  have := rg_rng n_tb; have := rg_rng v1; omega
theorem lg_X10_tell_16 (n_tb : Int32) (v1 : Int32) (v2 : Int32) (yb : 1 ≤ n_tb.toInt ∧ n_tb.toInt ≤ 40) (h_2 : 0 ≤ v1.toInt ∧ v1.toInt < n_tb.toInt) (e_4 : ¬ v2 = 0) (e_7 : ¬ v2 = 1) (e_10 : ¬ v2 = 2) (e_15 : ¬ v2 = 3) (e_18 : ¬ v2 = 4) (e_21 : ¬ v2 = 5) (e_24 : ¬ v2 = 6) (e_25 : ¬ v2 = 7) (e_28 : v2 = 8) : True := by
  have := rg_rng n_tb; have := rg_rng v1; trivial
theorem lg_X10_tell_17 (n_tb : Int32) (v1 : Int32) (v2 : Int32) (yb : 1 ≤ n_tb.toInt ∧ n_tb.toInt ≤ 40) (h_2 : 0 ≤ v1.toInt ∧ v1.toInt < n_tb.toInt) (e_4 : ¬ v2 = 0) (e_7 : ¬ v2 = 1) (e_10 : ¬ v2 = 2) (e_15 : ¬ v2 = 3) (e_18 : ¬ v2 = 4) (e_21 : ¬ v2 = 5) (e_24 : ¬ v2 = 6) (e_25 : ¬ v2 = 7) (e_28 : ¬ v2 = 8) : True := by
  have := rg_rng n_tb; have := rg_rng v1; trivial
theorem lg_X10_tell_18 (n_tb : Int32) (v1 : Int32) (yb : 1 ≤ n_tb.toInt ∧ n_tb.toInt ≤ 40) (h_2 : ¬ (0 ≤ v1.toInt ∧ v1.toInt < n_tb.toInt)) : True := by
  have := rg_rng n_tb; have := rg_rng v1; trivial
set_option maxHeartbeats 4000000 in
set_option maxRecDepth 100000 in
theorem kX10_tell (l : Launch) (dC : Nat → ClassId) (dI : Nat → Nat → Nat) (sz : Nat) (h0 : Nat) (t_to : Nat) (t_height : Nat) (t_member : Nat) (t_lengthHome : Nat) (t_runs : Nat) (t_leak : Nat) (t_vacuum : Nat) (t_reading : Nat) (n_tb : Int32) (k_to : ClassId) (k_height : ClassId) (k_runs : ClassId) (k_vacuum : ClassId) (k_reading : ClassId) (k_member : ClassId) (k_lengthHome : ClassId) (f_to : Nat → Int32) (f_height : Nat → Int32) (f_runs : Nat → Int32) (f_vacuum : Nat → Int32) (f_reading : Nat → Int32) (f_member : Nat → Int32) (f_lengthHome : Nat → Int32) (v1 : Int32) (v2 : Int32) (yb : 1 ≤ n_tb.toInt ∧ n_tb.toInt ≤ 40) : Met l yX10_tell (Cond.code yX10_tell cX10_tell 3 (some .int) :: bg) ({ frames := 4, cells := 0, slots := 0, locals := 86 }) (pcW dC dI [.ref h0, .int v1, .int v2] sz [(h0, .inr (10, [.ref t_to, .ref t_height, .ref t_member, .ref t_lengthHome, .ref t_runs, .ref t_leak, .ref t_vacuum, .ref t_reading, .int n_tb])), (t_to, .inl (k_to, 40, .inl f_to)), (t_height, .inl (k_height, 40, .inl f_height)), (t_runs, .inl (k_runs, 40, .inl f_runs)), (t_vacuum, .inl (k_vacuum, 40, .inl f_vacuum)), (t_reading, .inl (k_reading, 40, .inl f_reading)), (t_member, .inl (k_member, 40, .inl f_member)), (t_lengthHome, .inl (k_lengthHome, 40, .inl f_lengthHome))] [(k_to, .int), (k_height, .int), (k_runs, .boolean), (k_vacuum, .int), (k_reading, .int), (k_member, .int), (k_lengthHome, .int)]) (va_Qi (fun (r : Int32) (u : Unit) => True) (fun (u : Unit) (t : State) => va_P (dC, dI) vwCl [(h0, .inr (10, [.ref t_to, .ref t_height, .ref t_member, .ref t_lengthHome, .ref t_runs, .ref t_leak, .ref t_vacuum, .ref t_reading, .int n_tb])), (t_to, .inl (k_to, 40, .inl f_to)), (t_height, .inl (k_height, 40, .inl f_height)), (t_runs, .inl (k_runs, 40, .inl f_runs)), (t_vacuum, .inl (k_vacuum, 40, .inl f_vacuum)), (t_reading, .inl (k_reading, 40, .inl f_reading)), (t_member, .inl (k_member, 40, .inl f_member)), (t_lengthHome, .inl (k_lengthHome, 40, .inl f_lengthHome))] t.heap ∧ va_K (dC, dI) vwCl [(k_to, .int), (k_height, .int), (k_runs, .boolean), (k_vacuum, .int), (k_reading, .int), (k_member, .int), (k_lengthHome, .int)] t ∧ va_D (va_A [(h0, .inr (10, [.ref t_to, .ref t_height, .ref t_member, .ref t_lengthHome, .ref t_runs, .ref t_leak, .ref t_vacuum, .ref t_reading, .int n_tb])), (t_to, .inl (k_to, 40, .inl f_to)), (t_height, .inl (k_height, 40, .inl f_height)), (t_runs, .inl (k_runs, 40, .inl f_runs)), (t_vacuum, .inl (k_vacuum, 40, .inl f_vacuum)), (t_reading, .inl (k_reading, 40, .inl f_reading)), (t_member, .inl (k_member, 40, .inl f_member)), (t_lengthHome, .inl (k_lengthHome, 40, .inl f_lengthHome))] sz) [(h0, .inr (10, [.ref t_to, .ref t_height, .ref t_member, .ref t_lengthHome, .ref t_runs, .ref t_leak, .ref t_vacuum, .ref t_reading, .int n_tb])), (t_to, .inl (k_to, 40, .inl f_to)), (t_height, .inl (k_height, 40, .inl f_height)), (t_runs, .inl (k_runs, 40, .inl f_runs)), (t_vacuum, .inl (k_vacuum, 40, .inl f_vacuum)), (t_reading, .inl (k_reading, 40, .inl f_reading)), (t_member, .inl (k_member, 40, .inl f_member)), (t_lengthHome, .inl (k_lengthHome, 40, .inl f_lengthHome))]) (va_A [(h0, .inr (10, [.ref t_to, .ref t_height, .ref t_member, .ref t_lengthHome, .ref t_runs, .ref t_leak, .ref t_vacuum, .ref t_reading, .int n_tb])), (t_to, .inl (k_to, 40, .inl f_to)), (t_height, .inl (k_height, 40, .inl f_height)), (t_runs, .inl (k_runs, 40, .inl f_runs)), (t_vacuum, .inl (k_vacuum, 40, .inl f_vacuum)), (t_reading, .inl (k_reading, 40, .inl f_reading)), (t_member, .inl (k_member, 40, .inl f_member)), (t_lengthHome, .inl (k_lengthHome, 40, .inl f_lengthHome))] sz)) 0 0 (va_A [(h0, .inr (10, [.ref t_to, .ref t_height, .ref t_member, .ref t_lengthHome, .ref t_runs, .ref t_leak, .ref t_vacuum, .ref t_reading, .int n_tb])), (t_to, .inl (k_to, 40, .inl f_to)), (t_height, .inl (k_height, 40, .inl f_height)), (t_runs, .inl (k_runs, 40, .inl f_runs)), (t_vacuum, .inl (k_vacuum, 40, .inl f_vacuum)), (t_reading, .inl (k_reading, 40, .inl f_reading)), (t_member, .inl (k_member, 40, .inl f_member)), (t_lengthHome, .inl (k_lengthHome, 40, .inl f_lengthHome))] sz) := by
  refine Met.ofW (cc := cX10_tell) (maxL := 3) (ret := (some .int)) pnX10 rfl ?_
  intro p e s m args below meth c s₁ B hml hv
  obtain ⟨rfl, hsz, hP, hK, hD0, hN⟩ := hv
  have hx := B.exec
  have hb := B.bytes
  have hr := B.returns
  have htb : ∀ w ∈ bg, w.before [.ref h0, .int v1, .int v2].toArray s = true := fun w h => atoms_spec (ws := Cond.code yX10_tell cX10_tell 3 (some .int) :: bg) B.pre w (List.mem_cons_of_mem _ h)
  have hown : s.vm.findClass RX10 = some m.cls := findClass_of_methodNamed B.named
  have hlocks := B.notSynchronized
  subst hsz
  have hD := hD0.self (sz := s.heap.size)
  generalize hAe : va_A [(h0, .inr (10, [.ref t_to, .ref t_height, .ref t_member, .ref t_lengthHome, .ref t_runs, .ref t_leak, .ref t_vacuum, .ref t_reading, .int n_tb])), (t_to, .inl (k_to, 40, .inl f_to)), (t_height, .inl (k_height, 40, .inl f_height)), (t_runs, .inl (k_runs, 40, .inl f_runs)), (t_vacuum, .inl (k_vacuum, 40, .inl f_vacuum)), (t_reading, .inl (k_reading, 40, .inl f_reading)), (t_member, .inl (k_member, 40, .inl f_member)), (t_lengthHome, .inl (k_lengthHome, 40, .inl f_lengthHome))] s.heap.size = A at hD ⊢
  have hA : ∀ q : Nat, s.heap.size ≤ q → A q := fun q h => by rw [← hAe]; exact Or.inr h
  have hS : va_S A s.heap s.heap [] := va_S.rf
  have hl := lv_entry ([.ref h0, .int v1, .int v2]) (n := 3) (Nat.le_of_ble_eq_true rfl)
  rw [lg_entry_eq]
  generalize (lg_sl ([.ref h0, .int v1, .int v2]) ++ List.replicate (3 - (lg_sl ([.ref h0, .int v1, .int v2])).length) Slot.unset).toArray = ls at hl ⊢
  change lv_has ls 3 [(0, .ref h0), (1, .int v1), (2, .int v2)] at hl
  clear hD0 hAe
  refine go0 (wsP := fun H => va_P (dC, dI) vwCl [(h0, .inr (10, [.ref t_to, .ref t_height, .ref t_member, .ref t_lengthHome, .ref t_runs, .ref t_leak, .ref t_vacuum, .ref t_reading, .int n_tb])), (t_to, .inl (k_to, 40, .inl f_to)), (t_height, .inl (k_height, 40, .inl f_height)), (t_runs, .inl (k_runs, 40, .inl f_runs)), (t_vacuum, .inl (k_vacuum, 40, .inl f_vacuum)), (t_reading, .inl (k_reading, 40, .inl f_reading)), (t_member, .inl (k_member, 40, .inl f_member)), (t_lengthHome, .inl (k_lengthHome, 40, .inl f_lengthHome))] H) hP hS ?_
  clear hP hS; intro H locs hP hS
  change va_P (dC, dI) vwCl [(h0, .inr (10, [.ref t_to, .ref t_height, .ref t_member, .ref t_lengthHome, .ref t_runs, .ref t_leak, .ref t_vacuum, .ref t_reading, .int n_tb])), (t_to, .inl (k_to, 40, .inl f_to)), (t_height, .inl (k_height, 40, .inl f_height)), (t_runs, .inl (k_runs, 40, .inl f_runs)), (t_vacuum, .inl (k_vacuum, 40, .inl f_vacuum)), (t_reading, .inl (k_reading, 40, .inl f_reading)), (t_member, .inl (k_member, 40, .inl f_member)), (t_lengthHome, .inl (k_lengthHome, 40, .inl f_lengthHome))] H at hP
  refine lv_aload_n hx hb dX10_tell_0 rfl (lv_at hl 0 rfl) ?_
  refine lv_iload_n hx hb dX10_tell_1 rfl (lv_at hl 1 rfl) ?_
  have hPc := hP.sub (ws' := [(h0, .inr (10, [.ref t_to, .ref t_height, .ref t_member, .ref t_lengthHome, .ref t_runs, .ref t_leak, .ref t_vacuum, .ref t_reading, .int n_tb]))]) [0] rfl
  have hDc := hD.sub (ws' := [(h0, .inr (10, [.ref t_to, .ref t_height, .ref t_member, .ref t_lengthHome, .ref t_runs, .ref t_leak, .ref t_vacuum, .ref t_reading, .int n_tb]))]) [0] (by decide) rfl
  have hKc := hK.sub (tys' := []) [] rfl
  have hFc := va_free (wc := [(h0, .inr (10, [.ref t_to, .ref t_height, .ref t_member, .ref t_lengthHome, .ref t_runs, .ref t_leak, .ref t_vacuum, .ref t_reading, .int n_tb]))]) hD hS hA [0] rfl
  refine va_calli (va_runV (C := RX10) (As := [.int v1]) (rest := []) ⟨hx, hb, hml, hown, htb⟩ (kX10_has l dC dI H.size h0 t_to t_height t_member t_lengthHome t_runs t_leak t_vacuum t_reading n_tb v1 ) ⟨callB_of 1 htb (gd_c m_352) rfl rfl rfl (htb _ m_2) (htb _ m_363) hdX10_has ⟨(Nat.le_of_ble_eq_true rfl), (Nat.le_of_ble_eq_true rfl)⟩, htb _ m_350, htb _ m_351⟩ ⟨pcW_blind, va_recv hKc hPc (ci := 10) (q0 := 0) rfl rfl, pcW_at hPc hKc hDc hN⟩ rfl rfl hl.1 rfl (lv_room (Nat.le_of_ble_eq_true rfl)) dX10_tell_2 ⟨(Nat.le_of_ble_eq_true rfl), (Nat.le_of_ble_eq_true rfl)⟩) hS (fun q _ h => hFc q h) hFc (fun r_1 u t H1 locs1 ht hvm h_2 hB hz1 hk1 hS1 => ?_)
  obtain ⟨hP1, hK1, hD1⟩ := hB
  rw [ht] at hP1
  obtain ⟨hPn, hDn⟩ := va_join (wr := [(t_to, .inl (k_to, 40, .inl f_to)), (t_height, .inl (k_height, 40, .inl f_height)), (t_runs, .inl (k_runs, 40, .inl f_runs)), (t_vacuum, .inl (k_vacuum, 40, .inl f_vacuum)), (t_reading, .inl (k_reading, 40, .inl f_reading)), (t_member, .inl (k_member, 40, .inl f_member)), (t_lengthHome, .inl (k_lengthHome, 40, .inl f_lengthHome))]) (w1 := [(h0, .inr (10, [.ref t_to, .ref t_height, .ref t_member, .ref t_lengthHome, .ref t_runs, .ref t_leak, .ref t_vacuum, .ref t_reading, .int n_tb]))]) hP hD [0] [1, 2, 3, 4, 5, 6, 7] rfl rfl (by decide) (by decide) hk1 hFc hP1 hD1
  clear hP1 hD1 hK1
  clear hP hD hS hPc hDc hKc hFc hk1 hz1 ht hvm
  clear t
  revert hS1 hPn hDn; generalize H1 = H; generalize locs1 = locs; intro hS hP hD
  change va_P (dC, dI) vwCl [(t_to, .inl (k_to, 40, .inl f_to)), (t_height, .inl (k_height, 40, .inl f_height)), (t_runs, .inl (k_runs, 40, .inl f_runs)), (t_vacuum, .inl (k_vacuum, 40, .inl f_vacuum)), (t_reading, .inl (k_reading, 40, .inl f_reading)), (t_member, .inl (k_member, 40, .inl f_member)), (t_lengthHome, .inl (k_lengthHome, 40, .inl f_lengthHome)), (h0, .inr (10, [.ref t_to, .ref t_height, .ref t_member, .ref t_lengthHome, .ref t_runs, .ref t_leak, .ref t_vacuum, .ref t_reading, .int n_tb]))] H at hP
  change va_D A [(t_to, .inl (k_to, 40, .inl f_to)), (t_height, .inl (k_height, 40, .inl f_height)), (t_runs, .inl (k_runs, 40, .inl f_runs)), (t_vacuum, .inl (k_vacuum, 40, .inl f_vacuum)), (t_reading, .inl (k_reading, 40, .inl f_reading)), (t_member, .inl (k_member, 40, .inl f_member)), (t_lengthHome, .inl (k_lengthHome, 40, .inl f_lengthHome)), (h0, .inr (10, [.ref t_to, .ref t_height, .ref t_member, .ref t_lengthHome, .ref t_runs, .ref t_leak, .ref t_vacuum, .ref t_reading, .int n_tb]))] at hD
  rcases h_2 with ⟨rfl, h_2⟩ | ⟨rfl, h_2⟩
  · refine lv_if_ne (tgt := 10) hx hb dX10_tell_5 (by decide) ?_ (fun c_3 => absurd c_3 (by decide))
    intro _
    refine lv_iload_n hx hb dX10_tell_10 rfl (lv_at hl 2 rfl) ?_
    by_cases e_4 : v2 = 0
    · refine lv_tableIn (tgt := 60) (off := 49) hx hb dX10_tell_11 (by rw [e_4]; decide) (by rw [e_4]; decide) (by rw [e_4]; rfl) (by decide) ?_
      refine lv_aload_n hx hb dX10_tell_60 rfl (lv_at hl 0 rfl) ?_
      refine va_get (D := (dC, dI)) (ci := 10) (v := .ref t_to) (C := RX10) (T := TX10) (N := 9) hx hb htb iX10 hown hK hP 7 rfl rfl 0 (Nat.le_of_ble_eq_true rfl) (htb _ m_34) (fun _ h9 => h9) rfl dX10_tell_61 ?_
      refine lv_iload_n hx hb dX10_tell_64 rfl (lv_at hl 1 rfl) ?_
      refine va_iald hx hb hK hP 0 0 rfl rfl (i_in rfl (lg_X10_tell_0 n_tb v1 v2 yb h_2 e_4)) dX10_tell_65 ?_
      refine lv_topi (fun x_5 ex_6 => ?_)
      refine W.widen (k := 0) (n := 0) (Nat.le_of_ble_eq_true rfl) (Nat.le_of_ble_eq_true rfl) ?_
      have hP9 := hP.sub (ws' := [(h0, .inr (10, [.ref t_to, .ref t_height, .ref t_member, .ref t_lengthHome, .ref t_runs, .ref t_leak, .ref t_vacuum, .ref t_reading, .int n_tb])), (t_to, .inl (k_to, 40, .inl f_to)), (t_height, .inl (k_height, 40, .inl f_height)), (t_runs, .inl (k_runs, 40, .inl f_runs)), (t_vacuum, .inl (k_vacuum, 40, .inl f_vacuum)), (t_reading, .inl (k_reading, 40, .inl f_reading)), (t_member, .inl (k_member, 40, .inl f_member)), (t_lengthHome, .inl (k_lengthHome, 40, .inl f_lengthHome))]) [7, 0, 1, 2, 3, 4, 5, 6] rfl
      have hD9 := hD.sub (ws' := [(h0, .inr (10, [.ref t_to, .ref t_height, .ref t_member, .ref t_lengthHome, .ref t_runs, .ref t_leak, .ref t_vacuum, .ref t_reading, .int n_tb])), (t_to, .inl (k_to, 40, .inl f_to)), (t_height, .inl (k_height, 40, .inl f_height)), (t_runs, .inl (k_runs, 40, .inl f_runs)), (t_vacuum, .inl (k_vacuum, 40, .inl f_vacuum)), (t_reading, .inl (k_reading, 40, .inl f_reading)), (t_member, .inl (k_member, 40, .inl f_member)), (t_lengthHome, .inl (k_lengthHome, 40, .inl f_lengthHome))]) [7, 0, 1, 2, 3, 4, 5, 6] (by decide) rfl
      have hK9 := hK.sub (tys' := [(k_to, .int), (k_height, .int), (k_runs, .boolean), (k_vacuum, .int), (k_reading, .int), (k_member, .int), (k_lengthHome, .int)]) [0, 1, 2, 3, 4, 5, 6] rfl
      exact W.iret (v := x_5) hx hb hr (fun t ht hW => ⟨⟨x_5, (), rfl, (lg_X10_tell_1 n_tb v1 v2 yb h_2 e_4), ⟨by rw [ht]; exact hP9, va_K.moved hW.alike hK9, hD9⟩⟩, hS.F ht⟩) hS.2.2 dX10_tell_66
    by_cases e_7 : v2 = 1
    · refine lv_tableIn (tgt := 67) (off := 56) hx hb dX10_tell_11 (by rw [e_7]; decide) (by rw [e_7]; decide) (by rw [e_7]; rfl) (by decide) ?_
      refine lv_aload_n hx hb dX10_tell_67 rfl (lv_at hl 0 rfl) ?_
      refine va_get (D := (dC, dI)) (ci := 10) (v := .ref t_height) (C := RX10) (T := TX10) (N := 9) hx hb htb iX10 hown hK hP 7 rfl rfl 1 (Nat.le_of_ble_eq_true rfl) (htb _ m_35) (fun _ h9 => h9) rfl dX10_tell_68 ?_
      refine lv_iload_n hx hb dX10_tell_71 rfl (lv_at hl 1 rfl) ?_
      refine va_iald hx hb hK hP 1 1 rfl rfl (i_in rfl (lg_X10_tell_2 n_tb v1 v2 yb h_2 e_4 e_7)) dX10_tell_72 ?_
      refine lv_topi (fun x_8 ex_9 => ?_)
      refine W.widen (k := 0) (n := 0) (Nat.le_of_ble_eq_true rfl) (Nat.le_of_ble_eq_true rfl) ?_
      have hP9 := hP.sub (ws' := [(h0, .inr (10, [.ref t_to, .ref t_height, .ref t_member, .ref t_lengthHome, .ref t_runs, .ref t_leak, .ref t_vacuum, .ref t_reading, .int n_tb])), (t_to, .inl (k_to, 40, .inl f_to)), (t_height, .inl (k_height, 40, .inl f_height)), (t_runs, .inl (k_runs, 40, .inl f_runs)), (t_vacuum, .inl (k_vacuum, 40, .inl f_vacuum)), (t_reading, .inl (k_reading, 40, .inl f_reading)), (t_member, .inl (k_member, 40, .inl f_member)), (t_lengthHome, .inl (k_lengthHome, 40, .inl f_lengthHome))]) [7, 0, 1, 2, 3, 4, 5, 6] rfl
      have hD9 := hD.sub (ws' := [(h0, .inr (10, [.ref t_to, .ref t_height, .ref t_member, .ref t_lengthHome, .ref t_runs, .ref t_leak, .ref t_vacuum, .ref t_reading, .int n_tb])), (t_to, .inl (k_to, 40, .inl f_to)), (t_height, .inl (k_height, 40, .inl f_height)), (t_runs, .inl (k_runs, 40, .inl f_runs)), (t_vacuum, .inl (k_vacuum, 40, .inl f_vacuum)), (t_reading, .inl (k_reading, 40, .inl f_reading)), (t_member, .inl (k_member, 40, .inl f_member)), (t_lengthHome, .inl (k_lengthHome, 40, .inl f_lengthHome))]) [7, 0, 1, 2, 3, 4, 5, 6] (by decide) rfl
      have hK9 := hK.sub (tys' := [(k_to, .int), (k_height, .int), (k_runs, .boolean), (k_vacuum, .int), (k_reading, .int), (k_member, .int), (k_lengthHome, .int)]) [0, 1, 2, 3, 4, 5, 6] rfl
      exact W.iret (v := x_8) hx hb hr (fun t ht hW => ⟨⟨x_8, (), rfl, (lg_X10_tell_3 n_tb v1 v2 yb h_2 e_4 e_7), ⟨by rw [ht]; exact hP9, va_K.moved hW.alike hK9, hD9⟩⟩, hS.F ht⟩) hS.2.2 dX10_tell_73
    by_cases e_10 : v2 = 2
    · refine lv_tableIn (tgt := 74) (off := 63) hx hb dX10_tell_11 (by rw [e_10]; decide) (by rw [e_10]; decide) (by rw [e_10]; rfl) (by decide) ?_
      refine lv_aload_n hx hb dX10_tell_74 rfl (lv_at hl 0 rfl) ?_
      refine va_get (D := (dC, dI)) (ci := 10) (v := .ref t_runs) (C := RX10) (T := TX10) (N := 9) hx hb htb iX10 hown hK hP 7 rfl rfl 4 (Nat.le_of_ble_eq_true rfl) (htb _ m_38) (fun _ h9 => h9) rfl dX10_tell_75 ?_
      refine lv_iload_n hx hb dX10_tell_78 rfl (lv_at hl 1 rfl) ?_
      refine va_zald hx hb hK hP 2 2 rfl rfl (i_in rfl (lg_X10_tell_4 n_tb v1 v2 yb h_2 e_4 e_7 e_10)) dX10_tell_79 ?_
      refine lv_topi (fun x_11 ex_12 => ?_)
      refine lv_if_eq (tgt := 87) hx hb dX10_tell_80 (by decide) (fun c_13 => ?_) (fun c_13 => ?_)
      · have t_14 : x_11.toInt = (0 : Int) := i_eq rfl (by decide) c_13
        refine lv_iconst (v := 0) hx hb dX10_tell_87 (by decide) ?_
        refine W.widen (k := 0) (n := 0) (Nat.le_of_ble_eq_true rfl) (Nat.le_of_ble_eq_true rfl) ?_
        have hP9 := hP.sub (ws' := [(h0, .inr (10, [.ref t_to, .ref t_height, .ref t_member, .ref t_lengthHome, .ref t_runs, .ref t_leak, .ref t_vacuum, .ref t_reading, .int n_tb])), (t_to, .inl (k_to, 40, .inl f_to)), (t_height, .inl (k_height, 40, .inl f_height)), (t_runs, .inl (k_runs, 40, .inl f_runs)), (t_vacuum, .inl (k_vacuum, 40, .inl f_vacuum)), (t_reading, .inl (k_reading, 40, .inl f_reading)), (t_member, .inl (k_member, 40, .inl f_member)), (t_lengthHome, .inl (k_lengthHome, 40, .inl f_lengthHome))]) [7, 0, 1, 2, 3, 4, 5, 6] rfl
        have hD9 := hD.sub (ws' := [(h0, .inr (10, [.ref t_to, .ref t_height, .ref t_member, .ref t_lengthHome, .ref t_runs, .ref t_leak, .ref t_vacuum, .ref t_reading, .int n_tb])), (t_to, .inl (k_to, 40, .inl f_to)), (t_height, .inl (k_height, 40, .inl f_height)), (t_runs, .inl (k_runs, 40, .inl f_runs)), (t_vacuum, .inl (k_vacuum, 40, .inl f_vacuum)), (t_reading, .inl (k_reading, 40, .inl f_reading)), (t_member, .inl (k_member, 40, .inl f_member)), (t_lengthHome, .inl (k_lengthHome, 40, .inl f_lengthHome))]) [7, 0, 1, 2, 3, 4, 5, 6] (by decide) rfl
        have hK9 := hK.sub (tys' := [(k_to, .int), (k_height, .int), (k_runs, .boolean), (k_vacuum, .int), (k_reading, .int), (k_member, .int), (k_lengthHome, .int)]) [0, 1, 2, 3, 4, 5, 6] rfl
        exact W.iret (v := 0) hx hb hr (fun t ht hW => ⟨⟨0, (), rfl, (lg_X10_tell_5 n_tb v1 v2 x_11 yb h_2 e_4 e_7 e_10 t_14), ⟨by rw [ht]; exact hP9, va_K.moved hW.alike hK9, hD9⟩⟩, hS.F ht⟩) hS.2.2 dX10_tell_88
      · have t_14 : ¬ x_11.toInt = (0 : Int) := i_ne rfl (by decide) c_13
        refine lv_iconst (v := 1) hx hb dX10_tell_83 (by decide) ?_
        refine lv_goto (tgt := 88) hx hb dX10_tell_84 (by decide) ?_
        refine W.widen (k := 0) (n := 0) (Nat.le_of_ble_eq_true rfl) (Nat.le_of_ble_eq_true rfl) ?_
        have hP9 := hP.sub (ws' := [(h0, .inr (10, [.ref t_to, .ref t_height, .ref t_member, .ref t_lengthHome, .ref t_runs, .ref t_leak, .ref t_vacuum, .ref t_reading, .int n_tb])), (t_to, .inl (k_to, 40, .inl f_to)), (t_height, .inl (k_height, 40, .inl f_height)), (t_runs, .inl (k_runs, 40, .inl f_runs)), (t_vacuum, .inl (k_vacuum, 40, .inl f_vacuum)), (t_reading, .inl (k_reading, 40, .inl f_reading)), (t_member, .inl (k_member, 40, .inl f_member)), (t_lengthHome, .inl (k_lengthHome, 40, .inl f_lengthHome))]) [7, 0, 1, 2, 3, 4, 5, 6] rfl
        have hD9 := hD.sub (ws' := [(h0, .inr (10, [.ref t_to, .ref t_height, .ref t_member, .ref t_lengthHome, .ref t_runs, .ref t_leak, .ref t_vacuum, .ref t_reading, .int n_tb])), (t_to, .inl (k_to, 40, .inl f_to)), (t_height, .inl (k_height, 40, .inl f_height)), (t_runs, .inl (k_runs, 40, .inl f_runs)), (t_vacuum, .inl (k_vacuum, 40, .inl f_vacuum)), (t_reading, .inl (k_reading, 40, .inl f_reading)), (t_member, .inl (k_member, 40, .inl f_member)), (t_lengthHome, .inl (k_lengthHome, 40, .inl f_lengthHome))]) [7, 0, 1, 2, 3, 4, 5, 6] (by decide) rfl
        have hK9 := hK.sub (tys' := [(k_to, .int), (k_height, .int), (k_runs, .boolean), (k_vacuum, .int), (k_reading, .int), (k_member, .int), (k_lengthHome, .int)]) [0, 1, 2, 3, 4, 5, 6] rfl
        exact W.iret (v := 1) hx hb hr (fun t ht hW => ⟨⟨1, (), rfl, (lg_X10_tell_6 n_tb v1 v2 x_11 yb h_2 e_4 e_7 e_10 t_14), ⟨by rw [ht]; exact hP9, va_K.moved hW.alike hK9, hD9⟩⟩, hS.F ht⟩) hS.2.2 dX10_tell_88
    by_cases e_15 : v2 = 3
    · refine lv_tableIn (tgt := 89) (off := 78) hx hb dX10_tell_11 (by rw [e_15]; decide) (by rw [e_15]; decide) (by rw [e_15]; rfl) (by decide) ?_
      refine lv_aload_n hx hb dX10_tell_89 rfl (lv_at hl 0 rfl) ?_
      refine va_get (D := (dC, dI)) (ci := 10) (v := .ref t_vacuum) (C := RX10) (T := TX10) (N := 9) hx hb htb iX10 hown hK hP 7 rfl rfl 6 (Nat.le_of_ble_eq_true rfl) (htb _ m_40) (fun _ h9 => h9) rfl dX10_tell_90 ?_
      refine lv_iload_n hx hb dX10_tell_93 rfl (lv_at hl 1 rfl) ?_
      refine va_iald hx hb hK hP 3 3 rfl rfl (i_in rfl (lg_X10_tell_7 n_tb v1 v2 yb h_2 e_4 e_7 e_10 e_15)) dX10_tell_94 ?_
      refine lv_topi (fun x_16 ex_17 => ?_)
      refine W.widen (k := 0) (n := 0) (Nat.le_of_ble_eq_true rfl) (Nat.le_of_ble_eq_true rfl) ?_
      have hP9 := hP.sub (ws' := [(h0, .inr (10, [.ref t_to, .ref t_height, .ref t_member, .ref t_lengthHome, .ref t_runs, .ref t_leak, .ref t_vacuum, .ref t_reading, .int n_tb])), (t_to, .inl (k_to, 40, .inl f_to)), (t_height, .inl (k_height, 40, .inl f_height)), (t_runs, .inl (k_runs, 40, .inl f_runs)), (t_vacuum, .inl (k_vacuum, 40, .inl f_vacuum)), (t_reading, .inl (k_reading, 40, .inl f_reading)), (t_member, .inl (k_member, 40, .inl f_member)), (t_lengthHome, .inl (k_lengthHome, 40, .inl f_lengthHome))]) [7, 0, 1, 2, 3, 4, 5, 6] rfl
      have hD9 := hD.sub (ws' := [(h0, .inr (10, [.ref t_to, .ref t_height, .ref t_member, .ref t_lengthHome, .ref t_runs, .ref t_leak, .ref t_vacuum, .ref t_reading, .int n_tb])), (t_to, .inl (k_to, 40, .inl f_to)), (t_height, .inl (k_height, 40, .inl f_height)), (t_runs, .inl (k_runs, 40, .inl f_runs)), (t_vacuum, .inl (k_vacuum, 40, .inl f_vacuum)), (t_reading, .inl (k_reading, 40, .inl f_reading)), (t_member, .inl (k_member, 40, .inl f_member)), (t_lengthHome, .inl (k_lengthHome, 40, .inl f_lengthHome))]) [7, 0, 1, 2, 3, 4, 5, 6] (by decide) rfl
      have hK9 := hK.sub (tys' := [(k_to, .int), (k_height, .int), (k_runs, .boolean), (k_vacuum, .int), (k_reading, .int), (k_member, .int), (k_lengthHome, .int)]) [0, 1, 2, 3, 4, 5, 6] rfl
      exact W.iret (v := x_16) hx hb hr (fun t ht hW => ⟨⟨x_16, (), rfl, (lg_X10_tell_8 n_tb v1 v2 yb h_2 e_4 e_7 e_10 e_15), ⟨by rw [ht]; exact hP9, va_K.moved hW.alike hK9, hD9⟩⟩, hS.F ht⟩) hS.2.2 dX10_tell_95
    by_cases e_18 : v2 = 4
    · refine lv_tableIn (tgt := 96) (off := 85) hx hb dX10_tell_11 (by rw [e_18]; decide) (by rw [e_18]; decide) (by rw [e_18]; rfl) (by decide) ?_
      refine lv_aload_n hx hb dX10_tell_96 rfl (lv_at hl 0 rfl) ?_
      refine va_get (D := (dC, dI)) (ci := 10) (v := .ref t_reading) (C := RX10) (T := TX10) (N := 9) hx hb htb iX10 hown hK hP 7 rfl rfl 7 (Nat.le_of_ble_eq_true rfl) (htb _ m_41) (fun _ h9 => h9) rfl dX10_tell_97 ?_
      refine lv_iload_n hx hb dX10_tell_100 rfl (lv_at hl 1 rfl) ?_
      refine va_iald hx hb hK hP 4 4 rfl rfl (i_in rfl (lg_X10_tell_9 n_tb v1 v2 yb h_2 e_4 e_7 e_10 e_15 e_18)) dX10_tell_101 ?_
      refine lv_topi (fun x_19 ex_20 => ?_)
      refine W.widen (k := 0) (n := 0) (Nat.le_of_ble_eq_true rfl) (Nat.le_of_ble_eq_true rfl) ?_
      have hP9 := hP.sub (ws' := [(h0, .inr (10, [.ref t_to, .ref t_height, .ref t_member, .ref t_lengthHome, .ref t_runs, .ref t_leak, .ref t_vacuum, .ref t_reading, .int n_tb])), (t_to, .inl (k_to, 40, .inl f_to)), (t_height, .inl (k_height, 40, .inl f_height)), (t_runs, .inl (k_runs, 40, .inl f_runs)), (t_vacuum, .inl (k_vacuum, 40, .inl f_vacuum)), (t_reading, .inl (k_reading, 40, .inl f_reading)), (t_member, .inl (k_member, 40, .inl f_member)), (t_lengthHome, .inl (k_lengthHome, 40, .inl f_lengthHome))]) [7, 0, 1, 2, 3, 4, 5, 6] rfl
      have hD9 := hD.sub (ws' := [(h0, .inr (10, [.ref t_to, .ref t_height, .ref t_member, .ref t_lengthHome, .ref t_runs, .ref t_leak, .ref t_vacuum, .ref t_reading, .int n_tb])), (t_to, .inl (k_to, 40, .inl f_to)), (t_height, .inl (k_height, 40, .inl f_height)), (t_runs, .inl (k_runs, 40, .inl f_runs)), (t_vacuum, .inl (k_vacuum, 40, .inl f_vacuum)), (t_reading, .inl (k_reading, 40, .inl f_reading)), (t_member, .inl (k_member, 40, .inl f_member)), (t_lengthHome, .inl (k_lengthHome, 40, .inl f_lengthHome))]) [7, 0, 1, 2, 3, 4, 5, 6] (by decide) rfl
      have hK9 := hK.sub (tys' := [(k_to, .int), (k_height, .int), (k_runs, .boolean), (k_vacuum, .int), (k_reading, .int), (k_member, .int), (k_lengthHome, .int)]) [0, 1, 2, 3, 4, 5, 6] rfl
      exact W.iret (v := x_19) hx hb hr (fun t ht hW => ⟨⟨x_19, (), rfl, (lg_X10_tell_10 n_tb v1 v2 yb h_2 e_4 e_7 e_10 e_15 e_18), ⟨by rw [ht]; exact hP9, va_K.moved hW.alike hK9, hD9⟩⟩, hS.F ht⟩) hS.2.2 dX10_tell_102
    by_cases e_21 : v2 = 5
    · refine lv_tableIn (tgt := 103) (off := 92) hx hb dX10_tell_11 (by rw [e_21]; decide) (by rw [e_21]; decide) (by rw [e_21]; rfl) (by decide) ?_
      refine lv_aload_n hx hb dX10_tell_103 rfl (lv_at hl 0 rfl) ?_
      refine lv_iload_n hx hb dX10_tell_104 rfl (lv_at hl 1 rfl) ?_
      have hPc := hP.sub (ws' := [(h0, .inr (10, [.ref t_to, .ref t_height, .ref t_member, .ref t_lengthHome, .ref t_runs, .ref t_leak, .ref t_vacuum, .ref t_reading, .int n_tb])), (t_to, .inl (k_to, 40, .inl f_to)), (t_reading, .inl (k_reading, 40, .inl f_reading)), (t_vacuum, .inl (k_vacuum, 40, .inl f_vacuum))]) [7, 0, 4, 3] rfl
      have hDc := hD.sub (ws' := [(h0, .inr (10, [.ref t_to, .ref t_height, .ref t_member, .ref t_lengthHome, .ref t_runs, .ref t_leak, .ref t_vacuum, .ref t_reading, .int n_tb])), (t_to, .inl (k_to, 40, .inl f_to)), (t_reading, .inl (k_reading, 40, .inl f_reading)), (t_vacuum, .inl (k_vacuum, 40, .inl f_vacuum))]) [7, 0, 4, 3] (by decide) rfl
      have hKc := hK.sub (tys' := [(k_to, .int), (k_reading, .int), (k_vacuum, .int)]) [0, 4, 3] rfl
      have hFc := va_free (wc := [(h0, .inr (10, [.ref t_to, .ref t_height, .ref t_member, .ref t_lengthHome, .ref t_runs, .ref t_leak, .ref t_vacuum, .ref t_reading, .int n_tb])), (t_to, .inl (k_to, 40, .inl f_to)), (t_reading, .inl (k_reading, 40, .inl f_reading)), (t_vacuum, .inl (k_vacuum, 40, .inl f_vacuum))]) hD hS hA [7, 0, 4, 3] rfl
      refine va_calli (va_runV (C := RX10) (As := [.int v1]) (rest := []) ⟨hx, hb, hml, hown, htb⟩ (kX10_suspectBy l dC dI H.size h0 t_to t_height t_member t_lengthHome t_runs t_leak t_vacuum t_reading n_tb k_to k_reading k_vacuum f_to f_reading f_vacuum v1 yb) ⟨callB_of 1 htb (gd_c m_469) rfl rfl rfl (htb _ m_2) (htb _ m_466) hdX10_suspectBy ⟨(Nat.le_of_ble_eq_true rfl), (Nat.le_of_ble_eq_true rfl)⟩, htb _ m_468, htb _ ms_1⟩ ⟨pcW_blind, va_recv hKc hPc (ci := 10) (q0 := 0) rfl rfl, pcW_at hPc hKc hDc hN⟩ rfl rfl hl.1 rfl (lv_room (Nat.le_of_ble_eq_true rfl)) dX10_tell_105 ⟨(Nat.le_of_ble_eq_true rfl), (Nat.le_of_ble_eq_true rfl)⟩) hS (fun q _ h => hFc q h) hFc (fun r_22 u t H1 locs1 ht hvm h_23 hB hz1 hk1 hS1 => ?_)
      obtain ⟨hP1, hK1, hD1⟩ := hB
      rw [ht] at hP1
      obtain ⟨hPn, hDn⟩ := va_join (wr := [(t_height, .inl (k_height, 40, .inl f_height)), (t_runs, .inl (k_runs, 40, .inl f_runs)), (t_member, .inl (k_member, 40, .inl f_member)), (t_lengthHome, .inl (k_lengthHome, 40, .inl f_lengthHome))]) (w1 := [(h0, .inr (10, [.ref t_to, .ref t_height, .ref t_member, .ref t_lengthHome, .ref t_runs, .ref t_leak, .ref t_vacuum, .ref t_reading, .int n_tb])), (t_to, .inl (k_to, 40, .inl f_to)), (t_reading, .inl (k_reading, 40, .inl f_reading)), (t_vacuum, .inl (k_vacuum, 40, .inl f_vacuum))]) hP hD [7, 0, 4, 3] [1, 2, 5, 6] rfl rfl (by decide) (by decide) hk1 hFc hP1 hD1
      clear hP1 hD1 hK1
      clear hP hD hS hPc hDc hKc hFc hk1 hz1 ht hvm
      clear t
      revert hS1 hPn hDn; generalize H1 = H; generalize locs1 = locs; intro hS hP hD
      change va_P (dC, dI) vwCl [(t_height, .inl (k_height, 40, .inl f_height)), (t_runs, .inl (k_runs, 40, .inl f_runs)), (t_member, .inl (k_member, 40, .inl f_member)), (t_lengthHome, .inl (k_lengthHome, 40, .inl f_lengthHome)), (h0, .inr (10, [.ref t_to, .ref t_height, .ref t_member, .ref t_lengthHome, .ref t_runs, .ref t_leak, .ref t_vacuum, .ref t_reading, .int n_tb])), (t_to, .inl (k_to, 40, .inl f_to)), (t_reading, .inl (k_reading, 40, .inl f_reading)), (t_vacuum, .inl (k_vacuum, 40, .inl f_vacuum))] H at hP
      change va_D A [(t_height, .inl (k_height, 40, .inl f_height)), (t_runs, .inl (k_runs, 40, .inl f_runs)), (t_member, .inl (k_member, 40, .inl f_member)), (t_lengthHome, .inl (k_lengthHome, 40, .inl f_lengthHome)), (h0, .inr (10, [.ref t_to, .ref t_height, .ref t_member, .ref t_lengthHome, .ref t_runs, .ref t_leak, .ref t_vacuum, .ref t_reading, .int n_tb])), (t_to, .inl (k_to, 40, .inl f_to)), (t_reading, .inl (k_reading, 40, .inl f_reading)), (t_vacuum, .inl (k_vacuum, 40, .inl f_vacuum))] at hD
      refine W.widen (k := 0) (n := 0) (Nat.le_of_ble_eq_true rfl) (Nat.le_of_ble_eq_true rfl) ?_
      have hP9 := hP.sub (ws' := [(h0, .inr (10, [.ref t_to, .ref t_height, .ref t_member, .ref t_lengthHome, .ref t_runs, .ref t_leak, .ref t_vacuum, .ref t_reading, .int n_tb])), (t_to, .inl (k_to, 40, .inl f_to)), (t_height, .inl (k_height, 40, .inl f_height)), (t_runs, .inl (k_runs, 40, .inl f_runs)), (t_vacuum, .inl (k_vacuum, 40, .inl f_vacuum)), (t_reading, .inl (k_reading, 40, .inl f_reading)), (t_member, .inl (k_member, 40, .inl f_member)), (t_lengthHome, .inl (k_lengthHome, 40, .inl f_lengthHome))]) [4, 5, 0, 1, 7, 6, 2, 3] rfl
      have hD9 := hD.sub (ws' := [(h0, .inr (10, [.ref t_to, .ref t_height, .ref t_member, .ref t_lengthHome, .ref t_runs, .ref t_leak, .ref t_vacuum, .ref t_reading, .int n_tb])), (t_to, .inl (k_to, 40, .inl f_to)), (t_height, .inl (k_height, 40, .inl f_height)), (t_runs, .inl (k_runs, 40, .inl f_runs)), (t_vacuum, .inl (k_vacuum, 40, .inl f_vacuum)), (t_reading, .inl (k_reading, 40, .inl f_reading)), (t_member, .inl (k_member, 40, .inl f_member)), (t_lengthHome, .inl (k_lengthHome, 40, .inl f_lengthHome))]) [4, 5, 0, 1, 7, 6, 2, 3] (by decide) rfl
      have hK9 := hK.sub (tys' := [(k_to, .int), (k_height, .int), (k_runs, .boolean), (k_vacuum, .int), (k_reading, .int), (k_member, .int), (k_lengthHome, .int)]) [0, 1, 2, 3, 4, 5, 6] rfl
      exact W.iret (v := r_22) hx hb hr (fun t ht hW => ⟨⟨r_22, (), rfl, (lg_X10_tell_11 n_tb v1 v2 yb h_2 e_4 e_7 e_10 e_15 e_18 e_21 h_23), ⟨by rw [ht]; exact hP9, va_K.moved hW.alike hK9, hD9⟩⟩, hS.F ht⟩) hS.2.2 dX10_tell_108
    by_cases e_24 : v2 = 6
    · refine lv_tableIn (tgt := 123) (off := 112) hx hb dX10_tell_11 (by rw [e_24]; decide) (by rw [e_24]; decide) (by rw [e_24]; rfl) (by decide) ?_
      refine lv_iconst (v := (-1)) hx hb dX10_tell_123 (by decide) ?_
      refine W.widen (k := 0) (n := 0) (Nat.le_of_ble_eq_true rfl) (Nat.le_of_ble_eq_true rfl) ?_
      have hP9 := hP.sub (ws' := [(h0, .inr (10, [.ref t_to, .ref t_height, .ref t_member, .ref t_lengthHome, .ref t_runs, .ref t_leak, .ref t_vacuum, .ref t_reading, .int n_tb])), (t_to, .inl (k_to, 40, .inl f_to)), (t_height, .inl (k_height, 40, .inl f_height)), (t_runs, .inl (k_runs, 40, .inl f_runs)), (t_vacuum, .inl (k_vacuum, 40, .inl f_vacuum)), (t_reading, .inl (k_reading, 40, .inl f_reading)), (t_member, .inl (k_member, 40, .inl f_member)), (t_lengthHome, .inl (k_lengthHome, 40, .inl f_lengthHome))]) [7, 0, 1, 2, 3, 4, 5, 6] rfl
      have hD9 := hD.sub (ws' := [(h0, .inr (10, [.ref t_to, .ref t_height, .ref t_member, .ref t_lengthHome, .ref t_runs, .ref t_leak, .ref t_vacuum, .ref t_reading, .int n_tb])), (t_to, .inl (k_to, 40, .inl f_to)), (t_height, .inl (k_height, 40, .inl f_height)), (t_runs, .inl (k_runs, 40, .inl f_runs)), (t_vacuum, .inl (k_vacuum, 40, .inl f_vacuum)), (t_reading, .inl (k_reading, 40, .inl f_reading)), (t_member, .inl (k_member, 40, .inl f_member)), (t_lengthHome, .inl (k_lengthHome, 40, .inl f_lengthHome))]) [7, 0, 1, 2, 3, 4, 5, 6] (by decide) rfl
      have hK9 := hK.sub (tys' := [(k_to, .int), (k_height, .int), (k_runs, .boolean), (k_vacuum, .int), (k_reading, .int), (k_member, .int), (k_lengthHome, .int)]) [0, 1, 2, 3, 4, 5, 6] rfl
      exact W.iret (v := (-1)) hx hb hr (fun t ht hW => ⟨⟨(-1), (), rfl, (lg_X10_tell_12 n_tb v1 v2 yb h_2 e_4 e_7 e_10 e_15 e_18 e_21 e_24), ⟨by rw [ht]; exact hP9, va_K.moved hW.alike hK9, hD9⟩⟩, hS.F ht⟩) hS.2.2 dX10_tell_124
    by_cases e_25 : v2 = 7
    · refine lv_tableIn (tgt := 109) (off := 98) hx hb dX10_tell_11 (by rw [e_25]; decide) (by rw [e_25]; decide) (by rw [e_25]; rfl) (by decide) ?_
      refine lv_aload_n hx hb dX10_tell_109 rfl (lv_at hl 0 rfl) ?_
      refine va_get (D := (dC, dI)) (ci := 10) (v := .ref t_member) (C := RX10) (T := TX10) (N := 9) hx hb htb iX10 hown hK hP 7 rfl rfl 2 (Nat.le_of_ble_eq_true rfl) (htb _ m_36) (fun _ h9 => h9) rfl dX10_tell_110 ?_
      refine lv_iload_n hx hb dX10_tell_113 rfl (lv_at hl 1 rfl) ?_
      refine va_iald hx hb hK hP 5 5 rfl rfl (i_in rfl (lg_X10_tell_13 n_tb v1 v2 yb h_2 e_4 e_7 e_10 e_15 e_18 e_21 e_24 e_25)) dX10_tell_114 ?_
      refine lv_topi (fun x_26 ex_27 => ?_)
      refine W.widen (k := 0) (n := 0) (Nat.le_of_ble_eq_true rfl) (Nat.le_of_ble_eq_true rfl) ?_
      have hP9 := hP.sub (ws' := [(h0, .inr (10, [.ref t_to, .ref t_height, .ref t_member, .ref t_lengthHome, .ref t_runs, .ref t_leak, .ref t_vacuum, .ref t_reading, .int n_tb])), (t_to, .inl (k_to, 40, .inl f_to)), (t_height, .inl (k_height, 40, .inl f_height)), (t_runs, .inl (k_runs, 40, .inl f_runs)), (t_vacuum, .inl (k_vacuum, 40, .inl f_vacuum)), (t_reading, .inl (k_reading, 40, .inl f_reading)), (t_member, .inl (k_member, 40, .inl f_member)), (t_lengthHome, .inl (k_lengthHome, 40, .inl f_lengthHome))]) [7, 0, 1, 2, 3, 4, 5, 6] rfl
      have hD9 := hD.sub (ws' := [(h0, .inr (10, [.ref t_to, .ref t_height, .ref t_member, .ref t_lengthHome, .ref t_runs, .ref t_leak, .ref t_vacuum, .ref t_reading, .int n_tb])), (t_to, .inl (k_to, 40, .inl f_to)), (t_height, .inl (k_height, 40, .inl f_height)), (t_runs, .inl (k_runs, 40, .inl f_runs)), (t_vacuum, .inl (k_vacuum, 40, .inl f_vacuum)), (t_reading, .inl (k_reading, 40, .inl f_reading)), (t_member, .inl (k_member, 40, .inl f_member)), (t_lengthHome, .inl (k_lengthHome, 40, .inl f_lengthHome))]) [7, 0, 1, 2, 3, 4, 5, 6] (by decide) rfl
      have hK9 := hK.sub (tys' := [(k_to, .int), (k_height, .int), (k_runs, .boolean), (k_vacuum, .int), (k_reading, .int), (k_member, .int), (k_lengthHome, .int)]) [0, 1, 2, 3, 4, 5, 6] rfl
      exact W.iret (v := x_26) hx hb hr (fun t ht hW => ⟨⟨x_26, (), rfl, (lg_X10_tell_14 n_tb v1 v2 yb h_2 e_4 e_7 e_10 e_15 e_18 e_21 e_24 e_25), ⟨by rw [ht]; exact hP9, va_K.moved hW.alike hK9, hD9⟩⟩, hS.F ht⟩) hS.2.2 dX10_tell_115
    by_cases e_28 : v2 = 8
    · refine lv_tableIn (tgt := 116) (off := 105) hx hb dX10_tell_11 (by rw [e_28]; decide) (by rw [e_28]; decide) (by rw [e_28]; rfl) (by decide) ?_
      refine lv_aload_n hx hb dX10_tell_116 rfl (lv_at hl 0 rfl) ?_
      refine va_get (D := (dC, dI)) (ci := 10) (v := .ref t_lengthHome) (C := RX10) (T := TX10) (N := 9) hx hb htb iX10 hown hK hP 7 rfl rfl 3 (Nat.le_of_ble_eq_true rfl) (htb _ m_37) (fun _ h9 => h9) rfl dX10_tell_117 ?_
      refine lv_iload_n hx hb dX10_tell_120 rfl (lv_at hl 1 rfl) ?_
      refine va_iald hx hb hK hP 6 6 rfl rfl (i_in rfl (lg_X10_tell_15 n_tb v1 v2 yb h_2 e_4 e_7 e_10 e_15 e_18 e_21 e_24 e_25 e_28)) dX10_tell_121 ?_
      refine lv_topi (fun x_29 ex_30 => ?_)
      refine W.widen (k := 0) (n := 0) (Nat.le_of_ble_eq_true rfl) (Nat.le_of_ble_eq_true rfl) ?_
      have hP9 := hP.sub (ws' := [(h0, .inr (10, [.ref t_to, .ref t_height, .ref t_member, .ref t_lengthHome, .ref t_runs, .ref t_leak, .ref t_vacuum, .ref t_reading, .int n_tb])), (t_to, .inl (k_to, 40, .inl f_to)), (t_height, .inl (k_height, 40, .inl f_height)), (t_runs, .inl (k_runs, 40, .inl f_runs)), (t_vacuum, .inl (k_vacuum, 40, .inl f_vacuum)), (t_reading, .inl (k_reading, 40, .inl f_reading)), (t_member, .inl (k_member, 40, .inl f_member)), (t_lengthHome, .inl (k_lengthHome, 40, .inl f_lengthHome))]) [7, 0, 1, 2, 3, 4, 5, 6] rfl
      have hD9 := hD.sub (ws' := [(h0, .inr (10, [.ref t_to, .ref t_height, .ref t_member, .ref t_lengthHome, .ref t_runs, .ref t_leak, .ref t_vacuum, .ref t_reading, .int n_tb])), (t_to, .inl (k_to, 40, .inl f_to)), (t_height, .inl (k_height, 40, .inl f_height)), (t_runs, .inl (k_runs, 40, .inl f_runs)), (t_vacuum, .inl (k_vacuum, 40, .inl f_vacuum)), (t_reading, .inl (k_reading, 40, .inl f_reading)), (t_member, .inl (k_member, 40, .inl f_member)), (t_lengthHome, .inl (k_lengthHome, 40, .inl f_lengthHome))]) [7, 0, 1, 2, 3, 4, 5, 6] (by decide) rfl
      have hK9 := hK.sub (tys' := [(k_to, .int), (k_height, .int), (k_runs, .boolean), (k_vacuum, .int), (k_reading, .int), (k_member, .int), (k_lengthHome, .int)]) [0, 1, 2, 3, 4, 5, 6] rfl
      exact W.iret (v := x_29) hx hb hr (fun t ht hW => ⟨⟨x_29, (), rfl, (lg_X10_tell_16 n_tb v1 v2 yb h_2 e_4 e_7 e_10 e_15 e_18 e_21 e_24 e_25 e_28), ⟨by rw [ht]; exact hP9, va_K.moved hW.alike hK9, hD9⟩⟩, hS.F ht⟩) hS.2.2 dX10_tell_122
    refine lv_tableOut (tgt := 123) hx hb dX10_tell_11 (by have := lv_neT e_4 (a := 0) (by decide); have := lv_neT e_7 (a := 1) (by decide); have := lv_neT e_10 (a := 2) (by decide); have := lv_neT e_15 (a := 3) (by decide); have := lv_neT e_18 (a := 4) (by decide); have := lv_neT e_21 (a := 5) (by decide); have := lv_neT e_24 (a := 6) (by decide); have := lv_neT e_25 (a := 7) (by decide); have := lv_neT e_28 (a := 8) (by decide); omega) (by decide) ?_
    refine lv_iconst (v := (-1)) hx hb dX10_tell_123 (by decide) ?_
    refine W.widen (k := 0) (n := 0) (Nat.le_of_ble_eq_true rfl) (Nat.le_of_ble_eq_true rfl) ?_
    have hP9 := hP.sub (ws' := [(h0, .inr (10, [.ref t_to, .ref t_height, .ref t_member, .ref t_lengthHome, .ref t_runs, .ref t_leak, .ref t_vacuum, .ref t_reading, .int n_tb])), (t_to, .inl (k_to, 40, .inl f_to)), (t_height, .inl (k_height, 40, .inl f_height)), (t_runs, .inl (k_runs, 40, .inl f_runs)), (t_vacuum, .inl (k_vacuum, 40, .inl f_vacuum)), (t_reading, .inl (k_reading, 40, .inl f_reading)), (t_member, .inl (k_member, 40, .inl f_member)), (t_lengthHome, .inl (k_lengthHome, 40, .inl f_lengthHome))]) [7, 0, 1, 2, 3, 4, 5, 6] rfl
    have hD9 := hD.sub (ws' := [(h0, .inr (10, [.ref t_to, .ref t_height, .ref t_member, .ref t_lengthHome, .ref t_runs, .ref t_leak, .ref t_vacuum, .ref t_reading, .int n_tb])), (t_to, .inl (k_to, 40, .inl f_to)), (t_height, .inl (k_height, 40, .inl f_height)), (t_runs, .inl (k_runs, 40, .inl f_runs)), (t_vacuum, .inl (k_vacuum, 40, .inl f_vacuum)), (t_reading, .inl (k_reading, 40, .inl f_reading)), (t_member, .inl (k_member, 40, .inl f_member)), (t_lengthHome, .inl (k_lengthHome, 40, .inl f_lengthHome))]) [7, 0, 1, 2, 3, 4, 5, 6] (by decide) rfl
    have hK9 := hK.sub (tys' := [(k_to, .int), (k_height, .int), (k_runs, .boolean), (k_vacuum, .int), (k_reading, .int), (k_member, .int), (k_lengthHome, .int)]) [0, 1, 2, 3, 4, 5, 6] rfl
    exact W.iret (v := (-1)) hx hb hr (fun t ht hW => ⟨⟨(-1), (), rfl, (lg_X10_tell_17 n_tb v1 v2 yb h_2 e_4 e_7 e_10 e_15 e_18 e_21 e_24 e_25 e_28), ⟨by rw [ht]; exact hP9, va_K.moved hW.alike hK9, hD9⟩⟩, hS.F ht⟩) hS.2.2 dX10_tell_124
  · refine lv_if_ne (tgt := 10) hx hb dX10_tell_5 (by decide) (fun c_31 => absurd (by decide) c_31) ?_
    intro _
    refine lv_iconst (v := (-1)) hx hb dX10_tell_8 (by decide) ?_
    refine W.widen (k := 0) (n := 0) (Nat.le_of_ble_eq_true rfl) (Nat.le_of_ble_eq_true rfl) ?_
    have hP9 := hP.sub (ws' := [(h0, .inr (10, [.ref t_to, .ref t_height, .ref t_member, .ref t_lengthHome, .ref t_runs, .ref t_leak, .ref t_vacuum, .ref t_reading, .int n_tb])), (t_to, .inl (k_to, 40, .inl f_to)), (t_height, .inl (k_height, 40, .inl f_height)), (t_runs, .inl (k_runs, 40, .inl f_runs)), (t_vacuum, .inl (k_vacuum, 40, .inl f_vacuum)), (t_reading, .inl (k_reading, 40, .inl f_reading)), (t_member, .inl (k_member, 40, .inl f_member)), (t_lengthHome, .inl (k_lengthHome, 40, .inl f_lengthHome))]) [7, 0, 1, 2, 3, 4, 5, 6] rfl
    have hD9 := hD.sub (ws' := [(h0, .inr (10, [.ref t_to, .ref t_height, .ref t_member, .ref t_lengthHome, .ref t_runs, .ref t_leak, .ref t_vacuum, .ref t_reading, .int n_tb])), (t_to, .inl (k_to, 40, .inl f_to)), (t_height, .inl (k_height, 40, .inl f_height)), (t_runs, .inl (k_runs, 40, .inl f_runs)), (t_vacuum, .inl (k_vacuum, 40, .inl f_vacuum)), (t_reading, .inl (k_reading, 40, .inl f_reading)), (t_member, .inl (k_member, 40, .inl f_member)), (t_lengthHome, .inl (k_lengthHome, 40, .inl f_lengthHome))]) [7, 0, 1, 2, 3, 4, 5, 6] (by decide) rfl
    have hK9 := hK.sub (tys' := [(k_to, .int), (k_height, .int), (k_runs, .boolean), (k_vacuum, .int), (k_reading, .int), (k_member, .int), (k_lengthHome, .int)]) [0, 1, 2, 3, 4, 5, 6] rfl
    exact W.iret (v := (-1)) hx hb hr (fun t ht hW => ⟨⟨(-1), (), rfl, (lg_X10_tell_18 n_tb v1 yb h_2), ⟨by rw [ht]; exact hP9, va_K.moved hW.alike hK9, hD9⟩⟩, hS.F ht⟩) hS.2.2 dX10_tell_9

theorem lg_X1_greatestRemainder_0  : (10 - (1 : Int)) < ((Int.toNat (10 - (1 : Int)) + 1 : Nat) : Int) := by
  omega
theorem lg_X1_greatestRemainder_1  : 1 ≤ (1 : Int) ∧ (1 : Int) ≤ 10 := by
  omega
theorem lg_X1_greatestRemainder_2  : 0 ≤ (0 : Int) ∧ (0 : Int) ≤ 9 := by
  omega
theorem lg_X1_greatestRemainder_3 (i_1 : Int32) (g_1 : Int32) (hi1_0 : 1 ≤ i_1.toInt ∧ i_1.toInt ≤ 10) (hi1_1 : 0 ≤ g_1.toInt ∧ g_1.toInt ≤ 9) (hmu1 : (10 - i_1.toInt) < ((0 : Nat) : Int)) : False := by
  have := rg_rng i_1; have := rg_rng g_1; omega
theorem lg_X1_greatestRemainder_4 (i_1 : Int32) (g_1 : Int32) (n1 : Nat) (hi1_0 : 1 ≤ i_1.toInt ∧ i_1.toInt ≤ 10) (hi1_1 : 0 ≤ g_1.toInt ∧ g_1.toInt ≤ 9) (hmu1 : (10 - i_1.toInt) < ((n1 + 1 : Nat) : Int)) (t_3 : (10 : Int) ≤ i_1.toInt) : 0 ≤ g_1.toInt ∧ g_1.toInt ≤ 9 := by
  have := rg_rng i_1; have := rg_rng g_1; omega
theorem lg_X1_greatestRemainder_5 (i_1 : Int32) (g_1 : Int32) (n1 : Nat) (hi1_0 : 1 ≤ i_1.toInt ∧ i_1.toInt ≤ 10) (hi1_1 : 0 ≤ g_1.toInt ∧ g_1.toInt ≤ 9) (hmu1 : (10 - i_1.toInt) < ((n1 + 1 : Nat) : Int)) (t_3 : i_1.toInt < (10 : Int)) : 0 ≤ i_1.toInt ∧ i_1.toInt < ((10 : Nat) : Int) := by
  have := rg_rng i_1; have := rg_rng g_1; omega
theorem lg_X1_greatestRemainder_6 (i_1 : Int32) (g_1 : Int32) (n1 : Nat) (hi1_0 : 1 ≤ i_1.toInt ∧ i_1.toInt ≤ 10) (hi1_1 : 0 ≤ g_1.toInt ∧ g_1.toInt ≤ 9) (hmu1 : (10 - i_1.toInt) < ((n1 + 1 : Nat) : Int)) (t_3 : i_1.toInt < (10 : Int)) : 0 ≤ g_1.toInt ∧ g_1.toInt < ((10 : Nat) : Int) := by
  have := rg_rng i_1; have := rg_rng g_1; omega
theorem lg_X1_greatestRemainder_7 (i_1 : Int32) (g_1 : Int32) (n1 : Nat) (x_8 : Int32) (hi1_0 : 1 ≤ i_1.toInt ∧ i_1.toInt ≤ 10) (hi1_1 : 0 ≤ g_1.toInt ∧ g_1.toInt ≤ 9) (hmu1 : (10 - i_1.toInt) < ((n1 + 1 : Nat) : Int)) (t_3 : i_1.toInt < (10 : Int)) (t_11 : x_8.toInt ≤ (0 : Int)) : -2147483648 ≤ i_1.toInt + 1 ∧ i_1.toInt + 1 < 2147483648 := by
  have := rg_rng i_1; have := rg_rng g_1; have := rg_rng x_8; omega
theorem lg_X1_greatestRemainder_8 (i_1 : Int32) (g_1 : Int32) (n1 : Nat) (x_8 : Int32) (x_12 : Int32) (hi1_0 : 1 ≤ i_1.toInt ∧ i_1.toInt ≤ 10) (hi1_1 : 0 ≤ g_1.toInt ∧ g_1.toInt ≤ 9) (hmu1 : (10 - i_1.toInt) < ((n1 + 1 : Nat) : Int)) (t_3 : i_1.toInt < (10 : Int)) (t_11 : x_8.toInt ≤ (0 : Int)) (t_14 : x_12.toInt = i_1.toInt + 1) : (10 - x_12.toInt) < (n1 : Int) := by
  have := rg_rng i_1; have := rg_rng g_1; have := rg_rng x_8; have := rg_rng x_12; omega
theorem lg_X1_greatestRemainder_9 (i_1 : Int32) (g_1 : Int32) (n1 : Nat) (x_8 : Int32) (x_12 : Int32) (hi1_0 : 1 ≤ i_1.toInt ∧ i_1.toInt ≤ 10) (hi1_1 : 0 ≤ g_1.toInt ∧ g_1.toInt ≤ 9) (hmu1 : (10 - i_1.toInt) < ((n1 + 1 : Nat) : Int)) (t_3 : i_1.toInt < (10 : Int)) (t_11 : x_8.toInt ≤ (0 : Int)) (t_14 : x_12.toInt = i_1.toInt + 1) : 1 ≤ x_12.toInt ∧ x_12.toInt ≤ 10 := by
  have := rg_rng i_1; have := rg_rng g_1; have := rg_rng x_8; have := rg_rng x_12; omega
theorem lg_X1_greatestRemainder_10 (i_1 : Int32) (g_1 : Int32) (n1 : Nat) (x_8 : Int32) (x_12 : Int32) (hi1_0 : 1 ≤ i_1.toInt ∧ i_1.toInt ≤ 10) (hi1_1 : 0 ≤ g_1.toInt ∧ g_1.toInt ≤ 9) (hmu1 : (10 - i_1.toInt) < ((n1 + 1 : Nat) : Int)) (t_3 : i_1.toInt < (10 : Int)) (t_11 : x_8.toInt ≤ (0 : Int)) (t_14 : x_12.toInt = i_1.toInt + 1) : 0 ≤ g_1.toInt ∧ g_1.toInt ≤ 9 := by
  have := rg_rng i_1; have := rg_rng g_1; have := rg_rng x_8; have := rg_rng x_12; omega
theorem lg_X1_greatestRemainder_11 (i_1 : Int32) (g_1 : Int32) (n1 : Nat) (x_8 : Int32) (hi1_0 : 1 ≤ i_1.toInt ∧ i_1.toInt ≤ 10) (hi1_1 : 0 ≤ g_1.toInt ∧ g_1.toInt ≤ 9) (hmu1 : (10 - i_1.toInt) < ((n1 + 1 : Nat) : Int)) (t_3 : i_1.toInt < (10 : Int)) (t_11 : (0 : Int) < x_8.toInt) : -2147483648 ≤ i_1.toInt + 1 ∧ i_1.toInt + 1 < 2147483648 := by
  have := rg_rng i_1; have := rg_rng g_1; have := rg_rng x_8; omega
theorem lg_X1_greatestRemainder_12 (i_1 : Int32) (g_1 : Int32) (n1 : Nat) (x_8 : Int32) (x_15 : Int32) (hi1_0 : 1 ≤ i_1.toInt ∧ i_1.toInt ≤ 10) (hi1_1 : 0 ≤ g_1.toInt ∧ g_1.toInt ≤ 9) (hmu1 : (10 - i_1.toInt) < ((n1 + 1 : Nat) : Int)) (t_3 : i_1.toInt < (10 : Int)) (t_11 : (0 : Int) < x_8.toInt) (t_17 : x_15.toInt = i_1.toInt + 1) : (10 - x_15.toInt) < (n1 : Int) := by
  have := rg_rng i_1; have := rg_rng g_1; have := rg_rng x_8; have := rg_rng x_15; omega
theorem lg_X1_greatestRemainder_13 (i_1 : Int32) (g_1 : Int32) (n1 : Nat) (x_8 : Int32) (x_15 : Int32) (hi1_0 : 1 ≤ i_1.toInt ∧ i_1.toInt ≤ 10) (hi1_1 : 0 ≤ g_1.toInt ∧ g_1.toInt ≤ 9) (hmu1 : (10 - i_1.toInt) < ((n1 + 1 : Nat) : Int)) (t_3 : i_1.toInt < (10 : Int)) (t_11 : (0 : Int) < x_8.toInt) (t_17 : x_15.toInt = i_1.toInt + 1) : 1 ≤ x_15.toInt ∧ x_15.toInt ≤ 10 := by
  have := rg_rng i_1; have := rg_rng g_1; have := rg_rng x_8; have := rg_rng x_15; omega
theorem lg_X1_greatestRemainder_14 (i_1 : Int32) (g_1 : Int32) (n1 : Nat) (x_8 : Int32) (x_15 : Int32) (hi1_0 : 1 ≤ i_1.toInt ∧ i_1.toInt ≤ 10) (hi1_1 : 0 ≤ g_1.toInt ∧ g_1.toInt ≤ 9) (hmu1 : (10 - i_1.toInt) < ((n1 + 1 : Nat) : Int)) (t_3 : i_1.toInt < (10 : Int)) (t_11 : (0 : Int) < x_8.toInt) (t_17 : x_15.toInt = i_1.toInt + 1) : 0 ≤ i_1.toInt ∧ i_1.toInt ≤ 9 := by
  have := rg_rng i_1; have := rg_rng g_1; have := rg_rng x_8; have := rg_rng x_15; omega
set_option maxHeartbeats 4000000 in
set_option maxRecDepth 100000 in
theorem kX1_greatestRemainder (l : Launch) (dC : Nat → ClassId) (dI : Nat → Nat → Nat) (sz : Nat) (h0 : Nat) (o_came : Nat) (o_coins : Nat) (o_rem : Nat) (k_rem : ClassId) (f_rem : Nat → Int64) : Met l yX1_greatestRemainder (Cond.code yX1_greatestRemainder cX1_greatestRemainder 3 (some .int) :: bg) ({ frames := 0, cells := 0, slots := 0, locals := 0 }) (pcW dC dI [.ref h0] sz [(h0, .inr (1, [.ref o_came, .ref o_coins, .ref o_rem])), (o_rem, .inl (k_rem, 10, .inr (.inl f_rem)))] [(k_rem, .long)]) (va_Qi (fun (r : Int32) (u : Unit) => 0 ≤ r.toInt ∧ r.toInt ≤ 9) (fun (u : Unit) (t : State) => va_P (dC, dI) vwCl [(h0, .inr (1, [.ref o_came, .ref o_coins, .ref o_rem])), (o_rem, .inl (k_rem, 10, .inr (.inl f_rem)))] t.heap ∧ va_K (dC, dI) vwCl [(k_rem, .long)] t ∧ va_D (va_A [(h0, .inr (1, [.ref o_came, .ref o_coins, .ref o_rem])), (o_rem, .inl (k_rem, 10, .inr (.inl f_rem)))] sz) [(h0, .inr (1, [.ref o_came, .ref o_coins, .ref o_rem])), (o_rem, .inl (k_rem, 10, .inr (.inl f_rem)))]) (va_A [(h0, .inr (1, [.ref o_came, .ref o_coins, .ref o_rem])), (o_rem, .inl (k_rem, 10, .inr (.inl f_rem)))] sz)) 0 0 (va_A [(h0, .inr (1, [.ref o_came, .ref o_coins, .ref o_rem])), (o_rem, .inl (k_rem, 10, .inr (.inl f_rem)))] sz) := by
  refine Met.ofW (cc := cX1_greatestRemainder) (maxL := 3) (ret := (some .int)) pnX1 rfl ?_
  intro p e s m args below meth c s₁ B hml hv
  obtain ⟨rfl, hsz, hP, hK, hD0, hN⟩ := hv
  have hx := B.exec
  have hb := B.bytes
  have hr := B.returns
  have htb : ∀ w ∈ bg, w.before [.ref h0].toArray s = true := fun w h => atoms_spec (ws := Cond.code yX1_greatestRemainder cX1_greatestRemainder 3 (some .int) :: bg) B.pre w (List.mem_cons_of_mem _ h)
  have hown : s.vm.findClass RX1 = some m.cls := findClass_of_methodNamed B.named
  have hlocks := B.notSynchronized
  subst hsz
  have hD := hD0.self (sz := s.heap.size)
  generalize hAe : va_A [(h0, .inr (1, [.ref o_came, .ref o_coins, .ref o_rem])), (o_rem, .inl (k_rem, 10, .inr (.inl f_rem)))] s.heap.size = A at hD ⊢
  have hA : ∀ q : Nat, s.heap.size ≤ q → A q := fun q h => by rw [← hAe]; exact Or.inr h
  have hS : va_S A s.heap s.heap [] := va_S.rf
  have hl := lv_entry ([.ref h0]) (n := 3) (Nat.le_of_ble_eq_true rfl)
  rw [lg_entry_eq]
  generalize (lg_sl ([.ref h0]) ++ List.replicate (3 - (lg_sl ([.ref h0])).length) Slot.unset).toArray = ls at hl ⊢
  change lv_has ls 3 [(0, .ref h0)] at hl
  clear hD0 hAe
  refine go0 (wsP := fun H => va_P (dC, dI) vwCl [(h0, .inr (1, [.ref o_came, .ref o_coins, .ref o_rem])), (o_rem, .inl (k_rem, 10, .inr (.inl f_rem)))] H) hP hS ?_
  clear hP hS; intro H locs hP hS
  change va_P (dC, dI) vwCl [(h0, .inr (1, [.ref o_came, .ref o_coins, .ref o_rem])), (o_rem, .inl (k_rem, 10, .inr (.inl f_rem)))] H at hP
  refine lv_iconst (v := 0) hx hb dX1_greatestRemainder_0 (by decide) ?_
  refine lv_istore_n (lv' := [(1, .int 0), (0, .ref h0)]) hx hb dX1_greatestRemainder_1 rfl hl (by decide) rfl ?_
  clear hl; intro ls hl
  refine lv_iconst (v := 1) hx hb dX1_greatestRemainder_2 (by decide) ?_
  refine lv_istore_n (lv' := [(2, .int 1), (1, .int 0), (0, .ref h0)]) hx hb dX1_greatestRemainder_3 rfl hl (by decide) rfl ?_
  clear hl; intro ls hl
  refine (fun (lp : ∀ (n1 : Nat) (i_1 : Int32) (g_1 : Int32) (H : Heap) (locs : List Loc) (ls : Array Slot), (10 - i_1.toInt) < (n1 : Int) → (1 ≤ i_1.toInt ∧ i_1.toInt ≤ 10) → (0 ≤ g_1.toInt ∧ g_1.toInt ≤ 9) → lv_has ls 3 [(2, .int i_1), (1, .int g_1), (0, .ref h0)] → va_P (dC, dI) vwCl [(h0, .inr (1, [.ref o_came, .ref o_coins, .ref o_rem])), (o_rem, .inl (k_rem, 10, .inr (.inl f_rem)))] H → va_D A [(h0, .inr (1, [.ref o_came, .ref o_coins, .ref o_rem])), (o_rem, .inl (k_rem, 10, .inr (.inl f_rem)))] → va_S A s.heap H locs → W p l e _ s m _ below meth c H locs _ _ _ (F0 m 4 ls [])) => lp (Int.toNat (10 - (1 : Int)) + 1) 1 0   H locs ls ((lg_X1_greatestRemainder_0 )) (lg_X1_greatestRemainder_1 ) (lg_X1_greatestRemainder_2 )   hl hP hD hS) ?_
  clear hP hD hS hl
  intro n1
  induction n1 with
  | zero =>
    intro i_1 g_1 H locs ls hmu1 hi1_0 hi1_1   hl hP hD hS
    exact False.elim (lg_X1_greatestRemainder_3 i_1 g_1 hi1_0 hi1_1 hmu1)
  | succ n1 ih1 =>
    intro i_1 g_1 H locs ls hmu1 hi1_0 hi1_1   hl hP hD hS
    refine lv_iload_n hx hb dX1_greatestRemainder_4 rfl (lv_at hl 0 rfl) ?_
    refine lv_bipush (v := 10) hx hb dX1_greatestRemainder_5 (by decide) ?_
    refine lv_icmp_ge (tgt := 34) hx hb dX1_greatestRemainder_7 (by decide) (fun c_2 => ?_) (fun c_2 => ?_)
    · have t_3 : (10 : Int) ≤ i_1.toInt := i_le (by decide) rfl c_2
      refine lv_iload_n hx hb dX1_greatestRemainder_34 rfl (lv_at hl 1 rfl) ?_
      refine W.widen (k := 0) (n := 0) (Nat.le_of_ble_eq_true rfl) (Nat.le_of_ble_eq_true rfl) ?_
      have hP9 := hP.sub (ws' := [(h0, .inr (1, [.ref o_came, .ref o_coins, .ref o_rem])), (o_rem, .inl (k_rem, 10, .inr (.inl f_rem)))]) [0, 1] rfl
      have hD9 := hD.sub (ws' := [(h0, .inr (1, [.ref o_came, .ref o_coins, .ref o_rem])), (o_rem, .inl (k_rem, 10, .inr (.inl f_rem)))]) [0, 1] (by decide) rfl
      have hK9 := hK.sub (tys' := [(k_rem, .long)]) [0] rfl
      exact W.iret (v := g_1) hx hb hr (fun t ht hW => ⟨⟨g_1, (), rfl, (lg_X1_greatestRemainder_4 i_1 g_1 n1 hi1_0 hi1_1 hmu1 t_3), ⟨by rw [ht]; exact hP9, va_K.moved hW.alike hK9, hD9⟩⟩, hS.F ht⟩) hS.2.2 dX1_greatestRemainder_35
    · have t_3 : i_1.toInt < (10 : Int) := i_nle (by decide) rfl c_2
      refine lv_aload_n hx hb dX1_greatestRemainder_10 rfl (lv_at hl 2 rfl) ?_
      refine va_get (D := (dC, dI)) (ci := 1) (v := .ref o_rem) (C := RX1) (T := TX1) (N := 3) hx hb htb iX1 hown hK hP 0 rfl rfl 2 (Nat.le_of_ble_eq_true rfl) (htb _ m_221) (fun _ h9 => h9) rfl dX1_greatestRemainder_11 ?_
      refine lv_iload_n hx hb dX1_greatestRemainder_14 rfl (lv_at hl 0 rfl) ?_
      refine va_lald hx hb hK hP 1 0 rfl rfl (i_in rfl (lg_X1_greatestRemainder_5 i_1 g_1 n1 hi1_0 hi1_1 hmu1 t_3)) dX1_greatestRemainder_15 ?_
      refine lv_topl (fun x_4 ex_5 => ?_)
      refine lv_aload_n hx hb dX1_greatestRemainder_16 rfl (lv_at hl 2 rfl) ?_
      refine va_get (D := (dC, dI)) (ci := 1) (v := .ref o_rem) (C := RX1) (T := TX1) (N := 3) hx hb htb iX1 hown hK hP 0 rfl rfl 2 (Nat.le_of_ble_eq_true rfl) (htb _ m_221) (fun _ h9 => h9) rfl dX1_greatestRemainder_17 ?_
      refine lv_iload_n hx hb dX1_greatestRemainder_20 rfl (lv_at hl 1 rfl) ?_
      refine va_lald hx hb hK hP 1 0 rfl rfl (i_in rfl (lg_X1_greatestRemainder_6 i_1 g_1 n1 hi1_0 hi1_1 hmu1 t_3)) dX1_greatestRemainder_21 ?_
      refine lv_topl (fun x_6 ex_7 => ?_)
      refine W.lcmp hx hb dX1_greatestRemainder_22 ?_
      refine lv_topi (fun x_8 ex_9 => ?_)
      refine lv_if_le (tgt := 28) hx hb dX1_greatestRemainder_23 (by decide) (fun c_10 => ?_) (fun c_10 => ?_)
      · have t_11 : x_8.toInt ≤ (0 : Int) := i_le rfl (by decide) c_10
        obtain ⟨x_12, ex_13⟩ : ∃ y : Int32, y = i_1 + Int32.ofInt 1 := ⟨_, rfl⟩
        have t_14 : x_12.toInt = i_1.toInt + 1 := i_add rfl (by decide) (lg_X1_greatestRemainder_7 i_1 g_1 n1 x_8 hi1_0 hi1_1 hmu1 t_3 t_11) ex_13
        refine lv_iinc (v := x_12) (lv' := [(2, .int x_12), (1, .int g_1), (0, .ref h0)]) hx hb dX1_greatestRemainder_28 hl (k := 0) rfl ex_13.symm (by decide) rfl ?_
        clear hl; intro ls hl
        refine lv_goto (tgt := 4) hx hb dX1_greatestRemainder_31 (by decide) ?_
        exact ih1 x_12 g_1  H locs ls (lg_X1_greatestRemainder_8 i_1 g_1 n1 x_8 x_12 hi1_0 hi1_1 hmu1 t_3 t_11 t_14) (lg_X1_greatestRemainder_9 i_1 g_1 n1 x_8 x_12 hi1_0 hi1_1 hmu1 t_3 t_11 t_14) (lg_X1_greatestRemainder_10 i_1 g_1 n1 x_8 x_12 hi1_0 hi1_1 hmu1 t_3 t_11 t_14)   (lv_sub hl [0, 1, 2] rfl) (hP.sub [0, 1] rfl) (hD.sub [0, 1] (by decide) rfl) hS
      · have t_11 : (0 : Int) < x_8.toInt := i_nle rfl (by decide) c_10
        refine lv_iload_n hx hb dX1_greatestRemainder_26 rfl (lv_at hl 0 rfl) ?_
        refine lv_istore_n (lv' := [(1, .int i_1), (2, .int i_1), (0, .ref h0)]) hx hb dX1_greatestRemainder_27 rfl hl (by decide) rfl ?_
        clear hl; intro ls hl
        obtain ⟨x_15, ex_16⟩ : ∃ y : Int32, y = i_1 + Int32.ofInt 1 := ⟨_, rfl⟩
        have t_17 : x_15.toInt = i_1.toInt + 1 := i_add rfl (by decide) (lg_X1_greatestRemainder_11 i_1 g_1 n1 x_8 hi1_0 hi1_1 hmu1 t_3 t_11) ex_16
        refine lv_iinc (v := x_15) (lv' := [(2, .int x_15), (1, .int i_1), (0, .ref h0)]) hx hb dX1_greatestRemainder_28 hl (k := 1) rfl ex_16.symm (by decide) rfl ?_
        clear hl; intro ls hl
        refine lv_goto (tgt := 4) hx hb dX1_greatestRemainder_31 (by decide) ?_
        exact ih1 x_15 i_1  H locs ls (lg_X1_greatestRemainder_12 i_1 g_1 n1 x_8 x_15 hi1_0 hi1_1 hmu1 t_3 t_11 t_17) (lg_X1_greatestRemainder_13 i_1 g_1 n1 x_8 x_15 hi1_0 hi1_1 hmu1 t_3 t_11 t_17) (lg_X1_greatestRemainder_14 i_1 g_1 n1 x_8 x_15 hi1_0 hi1_1 hmu1 t_3 t_11 t_17)   (lv_sub hl [0, 1, 2] rfl) (hP.sub [0, 1] rfl) (hD.sub [0, 1] (by decide) rfl) hS

theorem lg_X5_has_0 (n_bk : Int32) (v1 : Int32) (t_2 : v1.toInt < (0 : Int)) : ¬ (0 ≤ v1.toInt ∧ v1.toInt < n_bk.toInt) := by
  have := rg_rng n_bk; have := rg_rng v1; omega
theorem lg_X5_has_1 (n_bk : Int32) (v1 : Int32) (t_2 : (0 : Int) ≤ v1.toInt) (t_4 : n_bk.toInt ≤ v1.toInt) : ¬ (0 ≤ v1.toInt ∧ v1.toInt < n_bk.toInt) := by
  have := rg_rng n_bk; have := rg_rng v1; omega
theorem lg_X5_has_2 (n_bk : Int32) (v1 : Int32) (t_2 : (0 : Int) ≤ v1.toInt) (t_4 : v1.toInt < n_bk.toInt) : 0 ≤ v1.toInt ∧ v1.toInt < n_bk.toInt := by
  have := rg_rng n_bk; have := rg_rng v1; omega
set_option maxHeartbeats 4000000 in
set_option maxRecDepth 100000 in
theorem kX5_has (l : Launch) (dC : Nat → ClassId) (dI : Nat → Nat → Nat) (sz : Nat) (h0 : Nat) (b_deed : Nat) (b_value : Nat) (b_tests : Nat) (b_thing : Nat) (b_sign : Nat) (b_number : Nat) (n_bk : Int32) (v1 : Int32) : Met l yX5_has (Cond.code yX5_has cX5_has 2 (some .boolean) :: bg) ({ frames := 0, cells := 0, slots := 0, locals := 0 }) (pcW dC dI [.ref h0, .int v1] sz [(h0, .inr (5, [.ref b_deed, .ref b_value, .ref b_tests, .ref b_thing, .ref b_sign, .ref b_number, .int n_bk]))] []) (va_Qi (fun (r : Int32) (u : Unit) => (r = 1 ∧ 0 ≤ v1.toInt ∧ v1.toInt < n_bk.toInt) ∨ (r = 0 ∧ ¬ (0 ≤ v1.toInt ∧ v1.toInt < n_bk.toInt))) (fun (u : Unit) (t : State) => va_P (dC, dI) vwCl [(h0, .inr (5, [.ref b_deed, .ref b_value, .ref b_tests, .ref b_thing, .ref b_sign, .ref b_number, .int n_bk]))] t.heap ∧ va_K (dC, dI) vwCl [] t ∧ va_D (va_A [(h0, .inr (5, [.ref b_deed, .ref b_value, .ref b_tests, .ref b_thing, .ref b_sign, .ref b_number, .int n_bk]))] sz) [(h0, .inr (5, [.ref b_deed, .ref b_value, .ref b_tests, .ref b_thing, .ref b_sign, .ref b_number, .int n_bk]))]) (va_A [(h0, .inr (5, [.ref b_deed, .ref b_value, .ref b_tests, .ref b_thing, .ref b_sign, .ref b_number, .int n_bk]))] sz)) 0 0 (va_A [(h0, .inr (5, [.ref b_deed, .ref b_value, .ref b_tests, .ref b_thing, .ref b_sign, .ref b_number, .int n_bk]))] sz) := by
  refine Met.ofW (cc := cX5_has) (maxL := 2) (ret := (some .boolean)) pnX5 rfl ?_
  intro p e s m args below meth c s₁ B hml hv
  obtain ⟨rfl, hsz, hP, hK, hD0, hN⟩ := hv
  have hx := B.exec
  have hb := B.bytes
  have hr := B.returns
  have htb : ∀ w ∈ bg, w.before [.ref h0, .int v1].toArray s = true := fun w h => atoms_spec (ws := Cond.code yX5_has cX5_has 2 (some .boolean) :: bg) B.pre w (List.mem_cons_of_mem _ h)
  have hown : s.vm.findClass RX5 = some m.cls := findClass_of_methodNamed B.named
  have hlocks := B.notSynchronized
  subst hsz
  have hD := hD0.self (sz := s.heap.size)
  generalize hAe : va_A [(h0, .inr (5, [.ref b_deed, .ref b_value, .ref b_tests, .ref b_thing, .ref b_sign, .ref b_number, .int n_bk]))] s.heap.size = A at hD ⊢
  have hA : ∀ q : Nat, s.heap.size ≤ q → A q := fun q h => by rw [← hAe]; exact Or.inr h
  have hS : va_S A s.heap s.heap [] := va_S.rf
  have hl := lv_entry ([.ref h0, .int v1]) (n := 2) (Nat.le_of_ble_eq_true rfl)
  rw [lg_entry_eq]
  generalize (lg_sl ([.ref h0, .int v1]) ++ List.replicate (2 - (lg_sl ([.ref h0, .int v1])).length) Slot.unset).toArray = ls at hl ⊢
  change lv_has ls 2 [(0, .ref h0), (1, .int v1)] at hl
  clear hD0 hAe
  refine go0 (wsP := fun H => va_P (dC, dI) vwCl [(h0, .inr (5, [.ref b_deed, .ref b_value, .ref b_tests, .ref b_thing, .ref b_sign, .ref b_number, .int n_bk]))] H) hP hS ?_
  clear hP hS; intro H locs hP hS
  change va_P (dC, dI) vwCl [(h0, .inr (5, [.ref b_deed, .ref b_value, .ref b_tests, .ref b_thing, .ref b_sign, .ref b_number, .int n_bk]))] H at hP
  refine lv_iload_n hx hb dX5_has_0 rfl (lv_at hl 1 rfl) ?_
  refine lv_if_lt (tgt := 16) hx hb dX5_has_1 (by decide) (fun c_1 => ?_) (fun c_1 => ?_)
  · have t_2 : v1.toInt < (0 : Int) := i_lt rfl (by decide) c_1
    refine lv_iconst (v := 0) hx hb dX5_has_16 (by decide) ?_
    refine W.widen (k := 0) (n := 0) (Nat.le_of_ble_eq_true rfl) (Nat.le_of_ble_eq_true rfl) ?_
    have hP9 := hP.sub (ws' := [(h0, .inr (5, [.ref b_deed, .ref b_value, .ref b_tests, .ref b_thing, .ref b_sign, .ref b_number, .int n_bk]))]) [0] rfl
    have hD9 := hD.sub (ws' := [(h0, .inr (5, [.ref b_deed, .ref b_value, .ref b_tests, .ref b_thing, .ref b_sign, .ref b_number, .int n_bk]))]) [0] (by decide) rfl
    have hK9 := hK.sub (tys' := []) [] rfl
    exact W.zret (ty := .boolean) (v := 0) hx hb hr rfl (fun t ht hW => ⟨⟨0, (), rfl, (Or.inr (⟨rfl, (lg_X5_has_0 n_bk v1 t_2)⟩)), ⟨by rw [ht]; exact hP9, va_K.moved hW.alike hK9, hD9⟩⟩, hS.F ht⟩) hS.2.2 dX5_has_17
  · have t_2 : (0 : Int) ≤ v1.toInt := i_nlt rfl (by decide) c_1
    refine lv_iload_n hx hb dX5_has_4 rfl (lv_at hl 1 rfl) ?_
    refine lv_aload_n hx hb dX5_has_5 rfl (lv_at hl 0 rfl) ?_
    refine va_get (D := (dC, dI)) (ci := 5) (v := .int n_bk) (C := RX5) (T := TX5) (N := 7) hx hb htb iX5 hown hK hP 0 rfl rfl 6 (Nat.le_of_ble_eq_true rfl) (htb _ m_285) (fun _ h9 => h9) rfl dX5_has_6 ?_
    refine lv_icmp_ge (tgt := 16) hx hb dX5_has_9 (by decide) (fun c_3 => ?_) (fun c_3 => ?_)
    · have t_4 : n_bk.toInt ≤ v1.toInt := i_le rfl rfl c_3
      refine lv_iconst (v := 0) hx hb dX5_has_16 (by decide) ?_
      refine W.widen (k := 0) (n := 0) (Nat.le_of_ble_eq_true rfl) (Nat.le_of_ble_eq_true rfl) ?_
      have hP9 := hP.sub (ws' := [(h0, .inr (5, [.ref b_deed, .ref b_value, .ref b_tests, .ref b_thing, .ref b_sign, .ref b_number, .int n_bk]))]) [0] rfl
      have hD9 := hD.sub (ws' := [(h0, .inr (5, [.ref b_deed, .ref b_value, .ref b_tests, .ref b_thing, .ref b_sign, .ref b_number, .int n_bk]))]) [0] (by decide) rfl
      have hK9 := hK.sub (tys' := []) [] rfl
      exact W.zret (ty := .boolean) (v := 0) hx hb hr rfl (fun t ht hW => ⟨⟨0, (), rfl, (Or.inr (⟨rfl, (lg_X5_has_1 n_bk v1 t_2 t_4)⟩)), ⟨by rw [ht]; exact hP9, va_K.moved hW.alike hK9, hD9⟩⟩, hS.F ht⟩) hS.2.2 dX5_has_17
    · have t_4 : v1.toInt < n_bk.toInt := i_nle rfl rfl c_3
      refine lv_iconst (v := 1) hx hb dX5_has_12 (by decide) ?_
      refine lv_goto (tgt := 17) hx hb dX5_has_13 (by decide) ?_
      refine W.widen (k := 0) (n := 0) (Nat.le_of_ble_eq_true rfl) (Nat.le_of_ble_eq_true rfl) ?_
      have hP9 := hP.sub (ws' := [(h0, .inr (5, [.ref b_deed, .ref b_value, .ref b_tests, .ref b_thing, .ref b_sign, .ref b_number, .int n_bk]))]) [0] rfl
      have hD9 := hD.sub (ws' := [(h0, .inr (5, [.ref b_deed, .ref b_value, .ref b_tests, .ref b_thing, .ref b_sign, .ref b_number, .int n_bk]))]) [0] (by decide) rfl
      have hK9 := hK.sub (tys' := []) [] rfl
      exact W.zret (ty := .boolean) (v := 1) hx hb hr rfl (fun t ht hW => ⟨⟨1, (), rfl, (Or.inl ⟨rfl, (lg_X5_has_2 n_bk v1 t_2 t_4)⟩), ⟨by rw [ht]; exact hP9, va_K.moved hW.alike hK9, hD9⟩⟩, hS.F ht⟩) hS.2.2 dX5_has_17

theorem lg_X5_deedOf_0 (n_bk : Int32) (v1 : Int32) (yk : 0 ≤ n_bk.toInt ∧ n_bk.toInt ≤ 16) (h_2 : 0 ≤ v1.toInt ∧ v1.toInt < n_bk.toInt) : 0 ≤ v1.toInt ∧ v1.toInt < ((16 : Nat) : Int) := by
  have := rg_rng n_bk; have := rg_rng v1; omega
theorem lg_X5_deedOf_1 (n_bk : Int32) (v1 : Int32) (yk : 0 ≤ n_bk.toInt ∧ n_bk.toInt ≤ 16) (h_2 : 0 ≤ v1.toInt ∧ v1.toInt < n_bk.toInt) : True := by
  have := rg_rng n_bk; have := rg_rng v1; trivial
theorem lg_X5_deedOf_2 (n_bk : Int32) (v1 : Int32) (yk : 0 ≤ n_bk.toInt ∧ n_bk.toInt ≤ 16) (h_2 : ¬ (0 ≤ v1.toInt ∧ v1.toInt < n_bk.toInt)) : True := by
  have := rg_rng n_bk; have := rg_rng v1; trivial
set_option maxHeartbeats 4000000 in
set_option maxRecDepth 100000 in
theorem kX5_deedOf (l : Launch) (dC : Nat → ClassId) (dI : Nat → Nat → Nat) (sz : Nat) (h0 : Nat) (b_deed : Nat) (b_value : Nat) (b_tests : Nat) (b_thing : Nat) (b_sign : Nat) (b_number : Nat) (n_bk : Int32) (k_deed : ClassId) (f_deed : Nat → Int32) (v1 : Int32) (yk : 0 ≤ n_bk.toInt ∧ n_bk.toInt ≤ 16) : Met l yX5_deedOf (Cond.code yX5_deedOf cX5_deedOf 2 (some .int) :: bg) ({ frames := 1, cells := 0, slots := 0, locals := 21 }) (pcW dC dI [.ref h0, .int v1] sz [(h0, .inr (5, [.ref b_deed, .ref b_value, .ref b_tests, .ref b_thing, .ref b_sign, .ref b_number, .int n_bk])), (b_deed, .inl (k_deed, 16, .inl f_deed))] [(k_deed, .int)]) (va_Qi (fun (r : Int32) (u : Unit) => True) (fun (u : Unit) (t : State) => va_P (dC, dI) vwCl [(h0, .inr (5, [.ref b_deed, .ref b_value, .ref b_tests, .ref b_thing, .ref b_sign, .ref b_number, .int n_bk])), (b_deed, .inl (k_deed, 16, .inl f_deed))] t.heap ∧ va_K (dC, dI) vwCl [(k_deed, .int)] t ∧ va_D (va_A [(h0, .inr (5, [.ref b_deed, .ref b_value, .ref b_tests, .ref b_thing, .ref b_sign, .ref b_number, .int n_bk])), (b_deed, .inl (k_deed, 16, .inl f_deed))] sz) [(h0, .inr (5, [.ref b_deed, .ref b_value, .ref b_tests, .ref b_thing, .ref b_sign, .ref b_number, .int n_bk])), (b_deed, .inl (k_deed, 16, .inl f_deed))]) (va_A [(h0, .inr (5, [.ref b_deed, .ref b_value, .ref b_tests, .ref b_thing, .ref b_sign, .ref b_number, .int n_bk])), (b_deed, .inl (k_deed, 16, .inl f_deed))] sz)) 0 0 (va_A [(h0, .inr (5, [.ref b_deed, .ref b_value, .ref b_tests, .ref b_thing, .ref b_sign, .ref b_number, .int n_bk])), (b_deed, .inl (k_deed, 16, .inl f_deed))] sz) := by
  refine Met.ofW (cc := cX5_deedOf) (maxL := 2) (ret := (some .int)) pnX5 rfl ?_
  intro p e s m args below meth c s₁ B hml hv
  obtain ⟨rfl, hsz, hP, hK, hD0, hN⟩ := hv
  have hx := B.exec
  have hb := B.bytes
  have hr := B.returns
  have htb : ∀ w ∈ bg, w.before [.ref h0, .int v1].toArray s = true := fun w h => atoms_spec (ws := Cond.code yX5_deedOf cX5_deedOf 2 (some .int) :: bg) B.pre w (List.mem_cons_of_mem _ h)
  have hown : s.vm.findClass RX5 = some m.cls := findClass_of_methodNamed B.named
  have hlocks := B.notSynchronized
  subst hsz
  have hD := hD0.self (sz := s.heap.size)
  generalize hAe : va_A [(h0, .inr (5, [.ref b_deed, .ref b_value, .ref b_tests, .ref b_thing, .ref b_sign, .ref b_number, .int n_bk])), (b_deed, .inl (k_deed, 16, .inl f_deed))] s.heap.size = A at hD ⊢
  have hA : ∀ q : Nat, s.heap.size ≤ q → A q := fun q h => by rw [← hAe]; exact Or.inr h
  have hS : va_S A s.heap s.heap [] := va_S.rf
  have hl := lv_entry ([.ref h0, .int v1]) (n := 2) (Nat.le_of_ble_eq_true rfl)
  rw [lg_entry_eq]
  generalize (lg_sl ([.ref h0, .int v1]) ++ List.replicate (2 - (lg_sl ([.ref h0, .int v1])).length) Slot.unset).toArray = ls at hl ⊢
  change lv_has ls 2 [(0, .ref h0), (1, .int v1)] at hl
  clear hD0 hAe
  refine go0 (wsP := fun H => va_P (dC, dI) vwCl [(h0, .inr (5, [.ref b_deed, .ref b_value, .ref b_tests, .ref b_thing, .ref b_sign, .ref b_number, .int n_bk])), (b_deed, .inl (k_deed, 16, .inl f_deed))] H) hP hS ?_
  clear hP hS; intro H locs hP hS
  change va_P (dC, dI) vwCl [(h0, .inr (5, [.ref b_deed, .ref b_value, .ref b_tests, .ref b_thing, .ref b_sign, .ref b_number, .int n_bk])), (b_deed, .inl (k_deed, 16, .inl f_deed))] H at hP
  refine lv_aload_n hx hb dX5_deedOf_0 rfl (lv_at hl 0 rfl) ?_
  refine lv_iload_n hx hb dX5_deedOf_1 rfl (lv_at hl 1 rfl) ?_
  have hPc := hP.sub (ws' := [(h0, .inr (5, [.ref b_deed, .ref b_value, .ref b_tests, .ref b_thing, .ref b_sign, .ref b_number, .int n_bk]))]) [0] rfl
  have hDc := hD.sub (ws' := [(h0, .inr (5, [.ref b_deed, .ref b_value, .ref b_tests, .ref b_thing, .ref b_sign, .ref b_number, .int n_bk]))]) [0] (by decide) rfl
  have hKc := hK.sub (tys' := []) [] rfl
  have hFc := va_free (wc := [(h0, .inr (5, [.ref b_deed, .ref b_value, .ref b_tests, .ref b_thing, .ref b_sign, .ref b_number, .int n_bk]))]) hD hS hA [0] rfl
  refine va_calli (va_runV (C := RX5) (As := [.int v1]) (rest := []) ⟨hx, hb, hml, hown, htb⟩ (kX5_has l dC dI H.size h0 b_deed b_value b_tests b_thing b_sign b_number n_bk v1 ) ⟨callB_of 1 htb (gd_c m_670) rfl rfl rfl (htb _ m_12) (htb _ m_667) hdX5_has ⟨(Nat.le_of_ble_eq_true rfl), (Nat.le_of_ble_eq_true rfl)⟩, htb _ m_669, htb _ ms_10⟩ ⟨pcW_blind, va_recv hKc hPc (ci := 5) (q0 := 0) rfl rfl, pcW_at hPc hKc hDc hN⟩ rfl rfl hl.1 rfl (lv_room (Nat.le_of_ble_eq_true rfl)) dX5_deedOf_2 ⟨(Nat.le_of_ble_eq_true rfl), (Nat.le_of_ble_eq_true rfl)⟩) hS (fun q _ h => hFc q h) hFc (fun r_1 u t H1 locs1 ht hvm h_2 hB hz1 hk1 hS1 => ?_)
  obtain ⟨hP1, hK1, hD1⟩ := hB
  rw [ht] at hP1
  obtain ⟨hPn, hDn⟩ := va_join (wr := [(b_deed, .inl (k_deed, 16, .inl f_deed))]) (w1 := [(h0, .inr (5, [.ref b_deed, .ref b_value, .ref b_tests, .ref b_thing, .ref b_sign, .ref b_number, .int n_bk]))]) hP hD [0] [1] rfl rfl (by decide) (by decide) hk1 hFc hP1 hD1
  clear hP1 hD1 hK1
  clear hP hD hS hPc hDc hKc hFc hk1 hz1 ht hvm
  clear t
  revert hS1 hPn hDn; generalize H1 = H; generalize locs1 = locs; intro hS hP hD
  change va_P (dC, dI) vwCl [(b_deed, .inl (k_deed, 16, .inl f_deed)), (h0, .inr (5, [.ref b_deed, .ref b_value, .ref b_tests, .ref b_thing, .ref b_sign, .ref b_number, .int n_bk]))] H at hP
  change va_D A [(b_deed, .inl (k_deed, 16, .inl f_deed)), (h0, .inr (5, [.ref b_deed, .ref b_value, .ref b_tests, .ref b_thing, .ref b_sign, .ref b_number, .int n_bk]))] at hD
  rcases h_2 with ⟨rfl, h_2⟩ | ⟨rfl, h_2⟩
  · refine lv_if_eq (tgt := 17) hx hb dX5_deedOf_5 (by decide) (fun c_3 => absurd c_3 (by decide)) ?_
    intro _
    refine lv_aload_n hx hb dX5_deedOf_8 rfl (lv_at hl 0 rfl) ?_
    refine va_get (D := (dC, dI)) (ci := 5) (v := .ref b_deed) (C := RX5) (T := TX5) (N := 7) hx hb htb iX5 hown hK hP 1 rfl rfl 0 (Nat.le_of_ble_eq_true rfl) (htb _ m_279) (fun _ h9 => h9) rfl dX5_deedOf_9 ?_
    refine lv_iload_n hx hb dX5_deedOf_12 rfl (lv_at hl 1 rfl) ?_
    refine va_iald hx hb hK hP 0 0 rfl rfl (i_in rfl (lg_X5_deedOf_0 n_bk v1 yk h_2)) dX5_deedOf_13 ?_
    refine lv_topi (fun x_4 ex_5 => ?_)
    refine lv_goto (tgt := 18) hx hb dX5_deedOf_14 (by decide) ?_
    refine W.widen (k := 0) (n := 0) (Nat.le_of_ble_eq_true rfl) (Nat.le_of_ble_eq_true rfl) ?_
    have hP9 := hP.sub (ws' := [(h0, .inr (5, [.ref b_deed, .ref b_value, .ref b_tests, .ref b_thing, .ref b_sign, .ref b_number, .int n_bk])), (b_deed, .inl (k_deed, 16, .inl f_deed))]) [1, 0] rfl
    have hD9 := hD.sub (ws' := [(h0, .inr (5, [.ref b_deed, .ref b_value, .ref b_tests, .ref b_thing, .ref b_sign, .ref b_number, .int n_bk])), (b_deed, .inl (k_deed, 16, .inl f_deed))]) [1, 0] (by decide) rfl
    have hK9 := hK.sub (tys' := [(k_deed, .int)]) [0] rfl
    exact W.iret (v := x_4) hx hb hr (fun t ht hW => ⟨⟨x_4, (), rfl, (lg_X5_deedOf_1 n_bk v1 yk h_2), ⟨by rw [ht]; exact hP9, va_K.moved hW.alike hK9, hD9⟩⟩, hS.F ht⟩) hS.2.2 dX5_deedOf_18
  · refine lv_if_eq (tgt := 17) hx hb dX5_deedOf_5 (by decide) ?_ (fun c_6 => absurd (by decide) c_6)
    intro _
    refine lv_iconst (v := (-1)) hx hb dX5_deedOf_17 (by decide) ?_
    refine W.widen (k := 0) (n := 0) (Nat.le_of_ble_eq_true rfl) (Nat.le_of_ble_eq_true rfl) ?_
    have hP9 := hP.sub (ws' := [(h0, .inr (5, [.ref b_deed, .ref b_value, .ref b_tests, .ref b_thing, .ref b_sign, .ref b_number, .int n_bk])), (b_deed, .inl (k_deed, 16, .inl f_deed))]) [1, 0] rfl
    have hD9 := hD.sub (ws' := [(h0, .inr (5, [.ref b_deed, .ref b_value, .ref b_tests, .ref b_thing, .ref b_sign, .ref b_number, .int n_bk])), (b_deed, .inl (k_deed, 16, .inl f_deed))]) [1, 0] (by decide) rfl
    have hK9 := hK.sub (tys' := [(k_deed, .int)]) [0] rfl
    exact W.iret (v := (-1)) hx hb hr (fun t ht hW => ⟨⟨(-1), (), rfl, (lg_X5_deedOf_2 n_bk v1 yk h_2), ⟨by rw [ht]; exact hP9, va_K.moved hW.alike hK9, hD9⟩⟩, hS.F ht⟩) hS.2.2 dX5_deedOf_18

theorem lg_X5_valueOf_0 (n_bk : Int32) (v1 : Int32) (yk : 0 ≤ n_bk.toInt ∧ n_bk.toInt ≤ 16) (h_2 : 0 ≤ v1.toInt ∧ v1.toInt < n_bk.toInt) : 0 ≤ v1.toInt ∧ v1.toInt < ((16 : Nat) : Int) := by
  have := rg_rng n_bk; have := rg_rng v1; omega
theorem lg_X5_valueOf_1 (n_bk : Int32) (v1 : Int32) (yk : 0 ≤ n_bk.toInt ∧ n_bk.toInt ≤ 16) (h_2 : 0 ≤ v1.toInt ∧ v1.toInt < n_bk.toInt) : True := by
  have := rg_rng n_bk; have := rg_rng v1; trivial
theorem lg_X5_valueOf_2 (n_bk : Int32) (v1 : Int32) (yk : 0 ≤ n_bk.toInt ∧ n_bk.toInt ≤ 16) (h_2 : ¬ (0 ≤ v1.toInt ∧ v1.toInt < n_bk.toInt)) : True := by
  have := rg_rng n_bk; have := rg_rng v1; trivial
set_option maxHeartbeats 4000000 in
set_option maxRecDepth 100000 in
theorem kX5_valueOf (l : Launch) (dC : Nat → ClassId) (dI : Nat → Nat → Nat) (sz : Nat) (h0 : Nat) (b_deed : Nat) (b_value : Nat) (b_tests : Nat) (b_thing : Nat) (b_sign : Nat) (b_number : Nat) (n_bk : Int32) (k_value : ClassId) (f_value : Nat → Int32) (v1 : Int32) (yk : 0 ≤ n_bk.toInt ∧ n_bk.toInt ≤ 16) : Met l yX5_valueOf (Cond.code yX5_valueOf cX5_valueOf 2 (some .int) :: bg) ({ frames := 1, cells := 0, slots := 0, locals := 21 }) (pcW dC dI [.ref h0, .int v1] sz [(h0, .inr (5, [.ref b_deed, .ref b_value, .ref b_tests, .ref b_thing, .ref b_sign, .ref b_number, .int n_bk])), (b_value, .inl (k_value, 16, .inl f_value))] [(k_value, .int)]) (va_Qi (fun (r : Int32) (u : Unit) => True) (fun (u : Unit) (t : State) => va_P (dC, dI) vwCl [(h0, .inr (5, [.ref b_deed, .ref b_value, .ref b_tests, .ref b_thing, .ref b_sign, .ref b_number, .int n_bk])), (b_value, .inl (k_value, 16, .inl f_value))] t.heap ∧ va_K (dC, dI) vwCl [(k_value, .int)] t ∧ va_D (va_A [(h0, .inr (5, [.ref b_deed, .ref b_value, .ref b_tests, .ref b_thing, .ref b_sign, .ref b_number, .int n_bk])), (b_value, .inl (k_value, 16, .inl f_value))] sz) [(h0, .inr (5, [.ref b_deed, .ref b_value, .ref b_tests, .ref b_thing, .ref b_sign, .ref b_number, .int n_bk])), (b_value, .inl (k_value, 16, .inl f_value))]) (va_A [(h0, .inr (5, [.ref b_deed, .ref b_value, .ref b_tests, .ref b_thing, .ref b_sign, .ref b_number, .int n_bk])), (b_value, .inl (k_value, 16, .inl f_value))] sz)) 0 0 (va_A [(h0, .inr (5, [.ref b_deed, .ref b_value, .ref b_tests, .ref b_thing, .ref b_sign, .ref b_number, .int n_bk])), (b_value, .inl (k_value, 16, .inl f_value))] sz) := by
  refine Met.ofW (cc := cX5_valueOf) (maxL := 2) (ret := (some .int)) pnX5 rfl ?_
  intro p e s m args below meth c s₁ B hml hv
  obtain ⟨rfl, hsz, hP, hK, hD0, hN⟩ := hv
  have hx := B.exec
  have hb := B.bytes
  have hr := B.returns
  have htb : ∀ w ∈ bg, w.before [.ref h0, .int v1].toArray s = true := fun w h => atoms_spec (ws := Cond.code yX5_valueOf cX5_valueOf 2 (some .int) :: bg) B.pre w (List.mem_cons_of_mem _ h)
  have hown : s.vm.findClass RX5 = some m.cls := findClass_of_methodNamed B.named
  have hlocks := B.notSynchronized
  subst hsz
  have hD := hD0.self (sz := s.heap.size)
  generalize hAe : va_A [(h0, .inr (5, [.ref b_deed, .ref b_value, .ref b_tests, .ref b_thing, .ref b_sign, .ref b_number, .int n_bk])), (b_value, .inl (k_value, 16, .inl f_value))] s.heap.size = A at hD ⊢
  have hA : ∀ q : Nat, s.heap.size ≤ q → A q := fun q h => by rw [← hAe]; exact Or.inr h
  have hS : va_S A s.heap s.heap [] := va_S.rf
  have hl := lv_entry ([.ref h0, .int v1]) (n := 2) (Nat.le_of_ble_eq_true rfl)
  rw [lg_entry_eq]
  generalize (lg_sl ([.ref h0, .int v1]) ++ List.replicate (2 - (lg_sl ([.ref h0, .int v1])).length) Slot.unset).toArray = ls at hl ⊢
  change lv_has ls 2 [(0, .ref h0), (1, .int v1)] at hl
  clear hD0 hAe
  refine go0 (wsP := fun H => va_P (dC, dI) vwCl [(h0, .inr (5, [.ref b_deed, .ref b_value, .ref b_tests, .ref b_thing, .ref b_sign, .ref b_number, .int n_bk])), (b_value, .inl (k_value, 16, .inl f_value))] H) hP hS ?_
  clear hP hS; intro H locs hP hS
  change va_P (dC, dI) vwCl [(h0, .inr (5, [.ref b_deed, .ref b_value, .ref b_tests, .ref b_thing, .ref b_sign, .ref b_number, .int n_bk])), (b_value, .inl (k_value, 16, .inl f_value))] H at hP
  refine lv_aload_n hx hb dX5_valueOf_0 rfl (lv_at hl 0 rfl) ?_
  refine lv_iload_n hx hb dX5_valueOf_1 rfl (lv_at hl 1 rfl) ?_
  have hPc := hP.sub (ws' := [(h0, .inr (5, [.ref b_deed, .ref b_value, .ref b_tests, .ref b_thing, .ref b_sign, .ref b_number, .int n_bk]))]) [0] rfl
  have hDc := hD.sub (ws' := [(h0, .inr (5, [.ref b_deed, .ref b_value, .ref b_tests, .ref b_thing, .ref b_sign, .ref b_number, .int n_bk]))]) [0] (by decide) rfl
  have hKc := hK.sub (tys' := []) [] rfl
  have hFc := va_free (wc := [(h0, .inr (5, [.ref b_deed, .ref b_value, .ref b_tests, .ref b_thing, .ref b_sign, .ref b_number, .int n_bk]))]) hD hS hA [0] rfl
  refine va_calli (va_runV (C := RX5) (As := [.int v1]) (rest := []) ⟨hx, hb, hml, hown, htb⟩ (kX5_has l dC dI H.size h0 b_deed b_value b_tests b_thing b_sign b_number n_bk v1 ) ⟨callB_of 1 htb (gd_c m_670) rfl rfl rfl (htb _ m_12) (htb _ m_667) hdX5_has ⟨(Nat.le_of_ble_eq_true rfl), (Nat.le_of_ble_eq_true rfl)⟩, htb _ m_669, htb _ ms_10⟩ ⟨pcW_blind, va_recv hKc hPc (ci := 5) (q0 := 0) rfl rfl, pcW_at hPc hKc hDc hN⟩ rfl rfl hl.1 rfl (lv_room (Nat.le_of_ble_eq_true rfl)) dX5_valueOf_2 ⟨(Nat.le_of_ble_eq_true rfl), (Nat.le_of_ble_eq_true rfl)⟩) hS (fun q _ h => hFc q h) hFc (fun r_1 u t H1 locs1 ht hvm h_2 hB hz1 hk1 hS1 => ?_)
  obtain ⟨hP1, hK1, hD1⟩ := hB
  rw [ht] at hP1
  obtain ⟨hPn, hDn⟩ := va_join (wr := [(b_value, .inl (k_value, 16, .inl f_value))]) (w1 := [(h0, .inr (5, [.ref b_deed, .ref b_value, .ref b_tests, .ref b_thing, .ref b_sign, .ref b_number, .int n_bk]))]) hP hD [0] [1] rfl rfl (by decide) (by decide) hk1 hFc hP1 hD1
  clear hP1 hD1 hK1
  clear hP hD hS hPc hDc hKc hFc hk1 hz1 ht hvm
  clear t
  revert hS1 hPn hDn; generalize H1 = H; generalize locs1 = locs; intro hS hP hD
  change va_P (dC, dI) vwCl [(b_value, .inl (k_value, 16, .inl f_value)), (h0, .inr (5, [.ref b_deed, .ref b_value, .ref b_tests, .ref b_thing, .ref b_sign, .ref b_number, .int n_bk]))] H at hP
  change va_D A [(b_value, .inl (k_value, 16, .inl f_value)), (h0, .inr (5, [.ref b_deed, .ref b_value, .ref b_tests, .ref b_thing, .ref b_sign, .ref b_number, .int n_bk]))] at hD
  rcases h_2 with ⟨rfl, h_2⟩ | ⟨rfl, h_2⟩
  · refine lv_if_eq (tgt := 17) hx hb dX5_valueOf_5 (by decide) (fun c_3 => absurd c_3 (by decide)) ?_
    intro _
    refine lv_aload_n hx hb dX5_valueOf_8 rfl (lv_at hl 0 rfl) ?_
    refine va_get (D := (dC, dI)) (ci := 5) (v := .ref b_value) (C := RX5) (T := TX5) (N := 7) hx hb htb iX5 hown hK hP 1 rfl rfl 1 (Nat.le_of_ble_eq_true rfl) (htb _ m_280) (fun _ h9 => h9) rfl dX5_valueOf_9 ?_
    refine lv_iload_n hx hb dX5_valueOf_12 rfl (lv_at hl 1 rfl) ?_
    refine va_iald hx hb hK hP 0 0 rfl rfl (i_in rfl (lg_X5_valueOf_0 n_bk v1 yk h_2)) dX5_valueOf_13 ?_
    refine lv_topi (fun x_4 ex_5 => ?_)
    refine lv_goto (tgt := 18) hx hb dX5_valueOf_14 (by decide) ?_
    refine W.widen (k := 0) (n := 0) (Nat.le_of_ble_eq_true rfl) (Nat.le_of_ble_eq_true rfl) ?_
    have hP9 := hP.sub (ws' := [(h0, .inr (5, [.ref b_deed, .ref b_value, .ref b_tests, .ref b_thing, .ref b_sign, .ref b_number, .int n_bk])), (b_value, .inl (k_value, 16, .inl f_value))]) [1, 0] rfl
    have hD9 := hD.sub (ws' := [(h0, .inr (5, [.ref b_deed, .ref b_value, .ref b_tests, .ref b_thing, .ref b_sign, .ref b_number, .int n_bk])), (b_value, .inl (k_value, 16, .inl f_value))]) [1, 0] (by decide) rfl
    have hK9 := hK.sub (tys' := [(k_value, .int)]) [0] rfl
    exact W.iret (v := x_4) hx hb hr (fun t ht hW => ⟨⟨x_4, (), rfl, (lg_X5_valueOf_1 n_bk v1 yk h_2), ⟨by rw [ht]; exact hP9, va_K.moved hW.alike hK9, hD9⟩⟩, hS.F ht⟩) hS.2.2 dX5_valueOf_18
  · refine lv_if_eq (tgt := 17) hx hb dX5_valueOf_5 (by decide) ?_ (fun c_6 => absurd (by decide) c_6)
    intro _
    refine lv_iconst (v := (-1)) hx hb dX5_valueOf_17 (by decide) ?_
    refine W.widen (k := 0) (n := 0) (Nat.le_of_ble_eq_true rfl) (Nat.le_of_ble_eq_true rfl) ?_
    have hP9 := hP.sub (ws' := [(h0, .inr (5, [.ref b_deed, .ref b_value, .ref b_tests, .ref b_thing, .ref b_sign, .ref b_number, .int n_bk])), (b_value, .inl (k_value, 16, .inl f_value))]) [1, 0] rfl
    have hD9 := hD.sub (ws' := [(h0, .inr (5, [.ref b_deed, .ref b_value, .ref b_tests, .ref b_thing, .ref b_sign, .ref b_number, .int n_bk])), (b_value, .inl (k_value, 16, .inl f_value))]) [1, 0] (by decide) rfl
    have hK9 := hK.sub (tys' := [(k_value, .int)]) [0] rfl
    exact W.iret (v := (-1)) hx hb hr (fun t ht hW => ⟨⟨(-1), (), rfl, (lg_X5_valueOf_2 n_bk v1 yk h_2), ⟨by rw [ht]; exact hP9, va_K.moved hW.alike hK9, hD9⟩⟩, hS.F ht⟩) hS.2.2 dX5_valueOf_18

theorem lg_X5_setDeed_0 (n_bk : Int32) (yk : 0 ≤ n_bk.toInt ∧ n_bk.toInt ≤ 16) (t_2 : n_bk.toInt < (16 : Int)) : 0 ≤ n_bk.toInt ∧ n_bk.toInt < ((16 : Nat) : Int) := by
  have := rg_rng n_bk; omega
set_option maxHeartbeats 4000000 in
set_option maxRecDepth 100000 in
theorem kX5_setDeed (l : Launch) (dC : Nat → ClassId) (dI : Nat → Nat → Nat) (sz : Nat) (h0 : Nat) (b_deed : Nat) (b_value : Nat) (b_tests : Nat) (b_thing : Nat) (b_sign : Nat) (b_number : Nat) (n_bk : Int32) (k_deed : ClassId) (k_value : ClassId) (f_deed : Nat → Int32) (f_value : Nat → Int32) (v1 : Int32) (v2 : Int32) (yk : 0 ≤ n_bk.toInt ∧ n_bk.toInt ≤ 16) : Met l yX5_setDeed (Cond.code yX5_setDeed cX5_setDeed 3 none :: bg) ({ frames := 0, cells := 0, slots := 0, locals := 0 }) (pcW dC dI [.ref h0, .int v1, .int v2] sz [(h0, .inr (5, [.ref b_deed, .ref b_value, .ref b_tests, .ref b_thing, .ref b_sign, .ref b_number, .int n_bk])), (b_deed, .inl (k_deed, 16, .inl f_deed)), (b_value, .inl (k_value, 16, .inl f_value))] [(k_deed, .int), (k_value, .int)]) (va_Qv (fun (u : Unit) => True) (fun (u : Unit) (t : State) => ∃ (w_deed : Nat → Int32) (w_value : Nat → Int32), va_P (dC, dI) vwCl [(h0, .inr (5, [.ref b_deed, .ref b_value, .ref b_tests, .ref b_thing, .ref b_sign, .ref b_number, .int n_bk])), (b_deed, .inl (k_deed, 16, .inl w_deed)), (b_value, .inl (k_value, 16, .inl w_value))] t.heap ∧ va_K (dC, dI) vwCl [] t ∧ va_D (va_A [(h0, .inr (5, [.ref b_deed, .ref b_value, .ref b_tests, .ref b_thing, .ref b_sign, .ref b_number, .int n_bk])), (b_deed, .inl (k_deed, 16, .inl f_deed)), (b_value, .inl (k_value, 16, .inl f_value))] sz) [(h0, .inr (5, [.ref b_deed, .ref b_value, .ref b_tests, .ref b_thing, .ref b_sign, .ref b_number, .int n_bk])), (b_deed, .inl (k_deed, 16, .inl w_deed)), (b_value, .inl (k_value, 16, .inl w_value))]) (va_A [(h0, .inr (5, [.ref b_deed, .ref b_value, .ref b_tests, .ref b_thing, .ref b_sign, .ref b_number, .int n_bk])), (b_deed, .inl (k_deed, 16, .inl f_deed)), (b_value, .inl (k_value, 16, .inl f_value))] sz)) 0 0 (va_A [(h0, .inr (5, [.ref b_deed, .ref b_value, .ref b_tests, .ref b_thing, .ref b_sign, .ref b_number, .int n_bk])), (b_deed, .inl (k_deed, 16, .inl f_deed)), (b_value, .inl (k_value, 16, .inl f_value))] sz) := by
  refine Met.ofW (cc := cX5_setDeed) (maxL := 3) (ret := none) pnX5 rfl ?_
  intro p e s m args below meth c s₁ B hml hv
  obtain ⟨rfl, hsz, hP, hK, hD0, hN⟩ := hv
  have hx := B.exec
  have hb := B.bytes
  have hr := B.returns
  have htb : ∀ w ∈ bg, w.before [.ref h0, .int v1, .int v2].toArray s = true := fun w h => atoms_spec (ws := Cond.code yX5_setDeed cX5_setDeed 3 none :: bg) B.pre w (List.mem_cons_of_mem _ h)
  have hown : s.vm.findClass RX5 = some m.cls := findClass_of_methodNamed B.named
  have hlocks := B.notSynchronized
  subst hsz
  have hD := hD0.self (sz := s.heap.size)
  generalize hAe : va_A [(h0, .inr (5, [.ref b_deed, .ref b_value, .ref b_tests, .ref b_thing, .ref b_sign, .ref b_number, .int n_bk])), (b_deed, .inl (k_deed, 16, .inl f_deed)), (b_value, .inl (k_value, 16, .inl f_value))] s.heap.size = A at hD ⊢
  have hA : ∀ q : Nat, s.heap.size ≤ q → A q := fun q h => by rw [← hAe]; exact Or.inr h
  have hS : va_S A s.heap s.heap [] := va_S.rf
  have hl := lv_entry ([.ref h0, .int v1, .int v2]) (n := 3) (Nat.le_of_ble_eq_true rfl)
  rw [lg_entry_eq]
  generalize (lg_sl ([.ref h0, .int v1, .int v2]) ++ List.replicate (3 - (lg_sl ([.ref h0, .int v1, .int v2])).length) Slot.unset).toArray = ls at hl ⊢
  change lv_has ls 3 [(0, .ref h0), (1, .int v1), (2, .int v2)] at hl
  clear hD0 hAe
  refine go0 (wsP := fun H => va_P (dC, dI) vwCl [(h0, .inr (5, [.ref b_deed, .ref b_value, .ref b_tests, .ref b_thing, .ref b_sign, .ref b_number, .int n_bk])), (b_deed, .inl (k_deed, 16, .inl f_deed)), (b_value, .inl (k_value, 16, .inl f_value))] H) hP hS ?_
  clear hP hS; intro H locs hP hS
  change va_P (dC, dI) vwCl [(h0, .inr (5, [.ref b_deed, .ref b_value, .ref b_tests, .ref b_thing, .ref b_sign, .ref b_number, .int n_bk])), (b_deed, .inl (k_deed, 16, .inl f_deed)), (b_value, .inl (k_value, 16, .inl f_value))] H at hP
  refine lv_aload_n hx hb dX5_setDeed_0 rfl (lv_at hl 0 rfl) ?_
  refine va_get (D := (dC, dI)) (ci := 5) (v := .int n_bk) (C := RX5) (T := TX5) (N := 7) hx hb htb iX5 hown hK hP 0 rfl rfl 6 (Nat.le_of_ble_eq_true rfl) (htb _ m_285) (fun _ h9 => h9) rfl dX5_setDeed_1 ?_
  refine lv_bipush (v := 16) hx hb dX5_setDeed_4 (by decide) ?_
  refine lv_icmp_ge (tgt := 29) hx hb dX5_setDeed_6 (by decide) (fun c_1 => ?_) (fun c_1 => ?_)
  · have t_2 : (16 : Int) ≤ n_bk.toInt := i_le (by decide) rfl c_1
    refine W.widen (k := 0) (n := 0) (Nat.le_of_ble_eq_true rfl) (Nat.le_of_ble_eq_true rfl) ?_
    have hP9 := hP.sub (ws' := [(h0, .inr (5, [.ref b_deed, .ref b_value, .ref b_tests, .ref b_thing, .ref b_sign, .ref b_number, .int n_bk])), (b_deed, .inl (k_deed, 16, .inl f_deed)), (b_value, .inl (k_value, 16, .inl f_value))]) [0, 1, 2] rfl
    have hD9 := hD.sub (ws' := [(h0, .inr (5, [.ref b_deed, .ref b_value, .ref b_tests, .ref b_thing, .ref b_sign, .ref b_number, .int n_bk])), (b_deed, .inl (k_deed, 16, .inl f_deed)), (b_value, .inl (k_value, 16, .inl f_value))]) [0, 1, 2] (by decide) rfl
    have hK9 := hK.sub (tys' := []) [] rfl
    exact W.vret hx hb hr (fun t ht hW => ⟨⟨(), rfl, trivial, ⟨f_deed, f_value, by rw [ht]; exact hP9, va_K.moved hW.alike hK9, hD9⟩⟩, hS.F ht⟩) hS.2.2 dX5_setDeed_29
  · have t_2 : n_bk.toInt < (16 : Int) := i_nle (by decide) rfl c_1
    refine lv_aload_n hx hb dX5_setDeed_9 rfl (lv_at hl 0 rfl) ?_
    refine va_get (D := (dC, dI)) (ci := 5) (v := .ref b_deed) (C := RX5) (T := TX5) (N := 7) hx hb htb iX5 hown hK hP 0 rfl rfl 0 (Nat.le_of_ble_eq_true rfl) (htb _ m_279) (fun _ h9 => h9) rfl dX5_setDeed_10 ?_
    refine lv_aload_n hx hb dX5_setDeed_13 rfl (lv_at hl 0 rfl) ?_
    refine va_get (D := (dC, dI)) (ci := 5) (v := .int n_bk) (C := RX5) (T := TX5) (N := 7) hx hb htb iX5 hown hK hP 0 rfl rfl 6 (Nat.le_of_ble_eq_true rfl) (htb _ m_285) (fun _ h9 => h9) rfl dX5_setDeed_14 ?_
    refine lv_iload_n hx hb dX5_setDeed_17 rfl (lv_at hl 1 rfl) ?_
    refine va_iast hx hb hK hP hD hS 1 0 rfl rfl (i_in rfl (lg_X5_setDeed_0 n_bk yk t_2)) dX5_setDeed_18 ?_
    clear hP hD hS; intro H locs hP hD hS
    change va_P (dC, dI) vwCl [(h0, .inr (5, [.ref b_deed, .ref b_value, .ref b_tests, .ref b_thing, .ref b_sign, .ref b_number, .int n_bk])), (b_deed, .inl (k_deed, 16, .inl (upd f_deed (Int32.toNatClampNeg n_bk) v1))), (b_value, .inl (k_value, 16, .inl f_value))] H at hP
    change va_D A [(h0, .inr (5, [.ref b_deed, .ref b_value, .ref b_tests, .ref b_thing, .ref b_sign, .ref b_number, .int n_bk])), (b_deed, .inl (k_deed, 16, .inl (upd f_deed (Int32.toNatClampNeg n_bk) v1))), (b_value, .inl (k_value, 16, .inl f_value))] at hD
    generalize upd f_deed (Int32.toNatClampNeg n_bk) v1 = g_3 at hP hD
    refine lv_aload_n hx hb dX5_setDeed_19 rfl (lv_at hl 0 rfl) ?_
    refine va_get (D := (dC, dI)) (ci := 5) (v := .ref b_value) (C := RX5) (T := TX5) (N := 7) hx hb htb iX5 hown hK hP 0 rfl rfl 1 (Nat.le_of_ble_eq_true rfl) (htb _ m_280) (fun _ h9 => h9) rfl dX5_setDeed_20 ?_
    refine lv_aload_n hx hb dX5_setDeed_23 rfl (lv_at hl 0 rfl) ?_
    refine va_get (D := (dC, dI)) (ci := 5) (v := .int n_bk) (C := RX5) (T := TX5) (N := 7) hx hb htb iX5 hown hK hP 0 rfl rfl 6 (Nat.le_of_ble_eq_true rfl) (htb _ m_285) (fun _ h9 => h9) rfl dX5_setDeed_24 ?_
    refine lv_iload_n hx hb dX5_setDeed_27 rfl (lv_at hl 2 rfl) ?_
    refine va_iast hx hb hK hP hD hS 2 1 rfl rfl (i_in rfl (lg_X5_setDeed_0 n_bk yk t_2)) dX5_setDeed_28 ?_
    clear hP hD hS; intro H locs hP hD hS
    change va_P (dC, dI) vwCl [(h0, .inr (5, [.ref b_deed, .ref b_value, .ref b_tests, .ref b_thing, .ref b_sign, .ref b_number, .int n_bk])), (b_deed, .inl (k_deed, 16, .inl g_3)), (b_value, .inl (k_value, 16, .inl (upd f_value (Int32.toNatClampNeg n_bk) v2)))] H at hP
    change va_D A [(h0, .inr (5, [.ref b_deed, .ref b_value, .ref b_tests, .ref b_thing, .ref b_sign, .ref b_number, .int n_bk])), (b_deed, .inl (k_deed, 16, .inl g_3)), (b_value, .inl (k_value, 16, .inl (upd f_value (Int32.toNatClampNeg n_bk) v2)))] at hD
    generalize upd f_value (Int32.toNatClampNeg n_bk) v2 = g_4 at hP hD
    refine W.widen (k := 0) (n := 0) (Nat.le_of_ble_eq_true rfl) (Nat.le_of_ble_eq_true rfl) ?_
    have hP9 := hP.sub (ws' := [(h0, .inr (5, [.ref b_deed, .ref b_value, .ref b_tests, .ref b_thing, .ref b_sign, .ref b_number, .int n_bk])), (b_deed, .inl (k_deed, 16, .inl g_3)), (b_value, .inl (k_value, 16, .inl g_4))]) [0, 1, 2] rfl
    have hD9 := hD.sub (ws' := [(h0, .inr (5, [.ref b_deed, .ref b_value, .ref b_tests, .ref b_thing, .ref b_sign, .ref b_number, .int n_bk])), (b_deed, .inl (k_deed, 16, .inl g_3)), (b_value, .inl (k_value, 16, .inl g_4))]) [0, 1, 2] (by decide) rfl
    have hK9 := hK.sub (tys' := []) [] rfl
    exact W.vret hx hb hr (fun t ht hW => ⟨⟨(), rfl, trivial, ⟨g_3, g_4, by rw [ht]; exact hP9, va_K.moved hW.alike hK9, hD9⟩⟩, hS.F ht⟩) hS.2.2 dX5_setDeed_29

theorem lg_X5_endStatement_0 (n_bk : Int32) (yk : 0 ≤ n_bk.toInt ∧ n_bk.toInt ≤ 16) (t_2 : (16 : Int) ≤ n_bk.toInt) : 0 ≤ n_bk.toInt ∧ n_bk.toInt ≤ 16 := by
  have := rg_rng n_bk; omega
theorem lg_X5_endStatement_1 (n_bk : Int32) (yk : 0 ≤ n_bk.toInt ∧ n_bk.toInt ≤ 16) (t_2 : n_bk.toInt < (16 : Int)) : -2147483648 ≤ n_bk.toInt + (1 : Int) ∧ n_bk.toInt + (1 : Int) < 2147483648 := by
  have := rg_rng n_bk; omega
theorem lg_X5_endStatement_2 (n_bk : Int32) (x_3 : Int32) (yk : 0 ≤ n_bk.toInt ∧ n_bk.toInt ≤ 16) (t_2 : n_bk.toInt < (16 : Int)) (t_5 : x_3.toInt = n_bk.toInt + (1 : Int)) : 0 ≤ x_3.toInt ∧ x_3.toInt ≤ 16 := by
  have := rg_rng n_bk; have := rg_rng x_3; omega
set_option maxHeartbeats 4000000 in
set_option maxRecDepth 100000 in
theorem kX5_endStatement (l : Launch) (dC : Nat → ClassId) (dI : Nat → Nat → Nat) (sz : Nat) (h0 : Nat) (b_deed : Nat) (b_value : Nat) (b_tests : Nat) (b_thing : Nat) (b_sign : Nat) (b_number : Nat) (n_bk : Int32) (yk : 0 ≤ n_bk.toInt ∧ n_bk.toInt ≤ 16) : Met l yX5_endStatement (Cond.code yX5_endStatement cX5_endStatement 1 none :: bg) ({ frames := 0, cells := 0, slots := 0, locals := 0 }) (pcW dC dI [.ref h0] sz [(h0, .inr (5, [.ref b_deed, .ref b_value, .ref b_tests, .ref b_thing, .ref b_sign, .ref b_number, .int n_bk]))] []) (va_Qv (fun (u : Unit) => True) (fun (u : Unit) (t : State) => ∃ (w_bk : Int32), (0 ≤ w_bk.toInt ∧ w_bk.toInt ≤ 16) ∧ va_P (dC, dI) vwCl [(h0, .inr (5, [.ref b_deed, .ref b_value, .ref b_tests, .ref b_thing, .ref b_sign, .ref b_number, .int w_bk]))] t.heap ∧ va_K (dC, dI) vwCl [] t ∧ va_D (va_A [(h0, .inr (5, [.ref b_deed, .ref b_value, .ref b_tests, .ref b_thing, .ref b_sign, .ref b_number, .int n_bk]))] sz) [(h0, .inr (5, [.ref b_deed, .ref b_value, .ref b_tests, .ref b_thing, .ref b_sign, .ref b_number, .int w_bk]))]) (va_A [(h0, .inr (5, [.ref b_deed, .ref b_value, .ref b_tests, .ref b_thing, .ref b_sign, .ref b_number, .int n_bk]))] sz)) 0 0 (va_A [(h0, .inr (5, [.ref b_deed, .ref b_value, .ref b_tests, .ref b_thing, .ref b_sign, .ref b_number, .int n_bk]))] sz) := by
  refine Met.ofW (cc := cX5_endStatement) (maxL := 1) (ret := none) pnX5 rfl ?_
  intro p e s m args below meth c s₁ B hml hv
  obtain ⟨rfl, hsz, hP, hK, hD0, hN⟩ := hv
  have hx := B.exec
  have hb := B.bytes
  have hr := B.returns
  have htb : ∀ w ∈ bg, w.before [.ref h0].toArray s = true := fun w h => atoms_spec (ws := Cond.code yX5_endStatement cX5_endStatement 1 none :: bg) B.pre w (List.mem_cons_of_mem _ h)
  have hown : s.vm.findClass RX5 = some m.cls := findClass_of_methodNamed B.named
  have hlocks := B.notSynchronized
  subst hsz
  have hD := hD0.self (sz := s.heap.size)
  generalize hAe : va_A [(h0, .inr (5, [.ref b_deed, .ref b_value, .ref b_tests, .ref b_thing, .ref b_sign, .ref b_number, .int n_bk]))] s.heap.size = A at hD ⊢
  have hA : ∀ q : Nat, s.heap.size ≤ q → A q := fun q h => by rw [← hAe]; exact Or.inr h
  have hS : va_S A s.heap s.heap [] := va_S.rf
  have hl := lv_entry ([.ref h0]) (n := 1) (Nat.le_of_ble_eq_true rfl)
  rw [lg_entry_eq]
  generalize (lg_sl ([.ref h0]) ++ List.replicate (1 - (lg_sl ([.ref h0])).length) Slot.unset).toArray = ls at hl ⊢
  change lv_has ls 1 [(0, .ref h0)] at hl
  clear hD0 hAe
  refine go0 (wsP := fun H => va_P (dC, dI) vwCl [(h0, .inr (5, [.ref b_deed, .ref b_value, .ref b_tests, .ref b_thing, .ref b_sign, .ref b_number, .int n_bk]))] H) hP hS ?_
  clear hP hS; intro H locs hP hS
  change va_P (dC, dI) vwCl [(h0, .inr (5, [.ref b_deed, .ref b_value, .ref b_tests, .ref b_thing, .ref b_sign, .ref b_number, .int n_bk]))] H at hP
  refine lv_aload_n hx hb dX5_endStatement_0 rfl (lv_at hl 0 rfl) ?_
  refine va_get (D := (dC, dI)) (ci := 5) (v := .int n_bk) (C := RX5) (T := TX5) (N := 7) hx hb htb iX5 hown hK hP 0 rfl rfl 6 (Nat.le_of_ble_eq_true rfl) (htb _ m_285) (fun _ h9 => h9) rfl dX5_endStatement_1 ?_
  refine lv_bipush (v := 16) hx hb dX5_endStatement_4 (by decide) ?_
  refine lv_icmp_ge (tgt := 19) hx hb dX5_endStatement_6 (by decide) (fun c_1 => ?_) (fun c_1 => ?_)
  · have t_2 : (16 : Int) ≤ n_bk.toInt := i_le (by decide) rfl c_1
    refine W.widen (k := 0) (n := 0) (Nat.le_of_ble_eq_true rfl) (Nat.le_of_ble_eq_true rfl) ?_
    have hP9 := hP.sub (ws' := [(h0, .inr (5, [.ref b_deed, .ref b_value, .ref b_tests, .ref b_thing, .ref b_sign, .ref b_number, .int n_bk]))]) [0] rfl
    have hD9 := hD.sub (ws' := [(h0, .inr (5, [.ref b_deed, .ref b_value, .ref b_tests, .ref b_thing, .ref b_sign, .ref b_number, .int n_bk]))]) [0] (by decide) rfl
    have hK9 := hK.sub (tys' := []) [] rfl
    exact W.vret hx hb hr (fun t ht hW => ⟨⟨(), rfl, trivial, ⟨n_bk, (lg_X5_endStatement_0 n_bk yk t_2), by rw [ht]; exact hP9, va_K.moved hW.alike hK9, hD9⟩⟩, hS.F ht⟩) hS.2.2 dX5_endStatement_19
  · have t_2 : n_bk.toInt < (16 : Int) := i_nle (by decide) rfl c_1
    refine lv_aload_n hx hb dX5_endStatement_9 rfl (lv_at hl 0 rfl) ?_
    refine lv_dup hx hb dX5_endStatement_10 rfl ?_
    refine va_get (D := (dC, dI)) (ci := 5) (v := .int n_bk) (C := RX5) (T := TX5) (N := 7) hx hb htb iX5 hown hK hP 0 rfl rfl 6 (Nat.le_of_ble_eq_true rfl) (htb _ m_285) (fun _ h9 => h9) rfl dX5_endStatement_11 ?_
    refine lv_iconst (v := 1) hx hb dX5_endStatement_14 (by decide) ?_
    refine lv_iadd hx hb dX5_endStatement_15 ?_
    refine lv_topi (fun x_3 ex_4 => ?_)
    have t_5 : x_3.toInt = n_bk.toInt + (1 : Int) := i_add rfl (by decide) (lg_X5_endStatement_1 n_bk yk t_2) ex_4
    refine va_put (D := (dC, dI)) (ci := 5) (v := .int x_3) (C := RX5) (T := TX5) (N := 7) hx hb htb iX5 tyX5 tyX5_ok nmX5 hown hK hP hD hS 0 rfl rfl 6 (Nat.le_of_ble_eq_true rfl) (htb _ m_285) (fun _ h9 => h9) rfl (tyX5_ok 6 (Nat.le_of_ble_eq_true rfl)) rfl rfl (Nat.le_of_ble_eq_true rfl) dX5_endStatement_16 ?_
    clear hP hD hS; intro H locs hP hD hS
    change va_P (dC, dI) vwCl [(h0, .inr (5, [.ref b_deed, .ref b_value, .ref b_tests, .ref b_thing, .ref b_sign, .ref b_number, .int x_3]))] H at hP
    change va_D A [(h0, .inr (5, [.ref b_deed, .ref b_value, .ref b_tests, .ref b_thing, .ref b_sign, .ref b_number, .int x_3]))] at hD
    refine W.widen (k := 0) (n := 0) (Nat.le_of_ble_eq_true rfl) (Nat.le_of_ble_eq_true rfl) ?_
    have hP9 := hP.sub (ws' := [(h0, .inr (5, [.ref b_deed, .ref b_value, .ref b_tests, .ref b_thing, .ref b_sign, .ref b_number, .int x_3]))]) [0] rfl
    have hD9 := hD.sub (ws' := [(h0, .inr (5, [.ref b_deed, .ref b_value, .ref b_tests, .ref b_thing, .ref b_sign, .ref b_number, .int x_3]))]) [0] (by decide) rfl
    have hK9 := hK.sub (tys' := []) [] rfl
    exact W.vret hx hb hr (fun t ht hW => ⟨⟨(), rfl, trivial, ⟨x_3, (lg_X5_endStatement_2 n_bk x_3 yk t_2 t_5), by rw [ht]; exact hP9, va_K.moved hW.alike hK9, hD9⟩⟩, hS.F ht⟩) hS.2.2 dX5_endStatement_19

theorem lg_X5_addTest_0 (n_bk : Int32) (yk : 0 ≤ n_bk.toInt ∧ n_bk.toInt ≤ 16) (t_2 : n_bk.toInt < (16 : Int)) : 0 ≤ n_bk.toInt ∧ n_bk.toInt < ((16 : Nat) : Int) := by
  have := rg_rng n_bk; omega
theorem lg_X5_addTest_1 (n_bk : Int32) (x_3 : Int32) (yk : 0 ≤ n_bk.toInt ∧ n_bk.toInt ≤ 16) (t_2 : n_bk.toInt < (16 : Int)) (t_5 : 0 ≤ x_3.toInt ∧ x_3.toInt ≤ 3) (t_7 : x_3.toInt < (3 : Int)) : -2147483648 ≤ n_bk.toInt * (3 : Int) ∧ n_bk.toInt * (3 : Int) < 2147483648 := by
  have := rg_rng n_bk; have := rg_rng x_3; omega
theorem lg_X5_addTest_2 (n_bk : Int32) (x_3 : Int32) (x_8 : Int32) (yk : 0 ≤ n_bk.toInt ∧ n_bk.toInt ≤ 16) (t_2 : n_bk.toInt < (16 : Int)) (t_5 : 0 ≤ x_3.toInt ∧ x_3.toInt ≤ 3) (t_7 : x_3.toInt < (3 : Int)) (t_10 : x_8.toInt = n_bk.toInt * (3 : Int)) : 0 ≤ n_bk.toInt ∧ n_bk.toInt < ((16 : Nat) : Int) := by
  have := rg_rng n_bk; have := rg_rng x_3; have := rg_rng x_8; omega
theorem lg_X5_addTest_3 (n_bk : Int32) (x_3 : Int32) (x_8 : Int32) (x_11 : Int32) (yk : 0 ≤ n_bk.toInt ∧ n_bk.toInt ≤ 16) (t_2 : n_bk.toInt < (16 : Int)) (t_5 : 0 ≤ x_3.toInt ∧ x_3.toInt ≤ 3) (t_7 : x_3.toInt < (3 : Int)) (t_10 : x_8.toInt = n_bk.toInt * (3 : Int)) (t_13 : 0 ≤ x_11.toInt ∧ x_11.toInt ≤ 3) (t_14 : x_11.toInt = x_3.toInt) : -2147483648 ≤ x_8.toInt + x_11.toInt ∧ x_8.toInt + x_11.toInt < 2147483648 := by
  have := rg_rng n_bk; have := rg_rng x_3; have := rg_rng x_8; have := rg_rng x_11; omega
theorem lg_X5_addTest_4 (n_bk : Int32) (x_3 : Int32) (x_8 : Int32) (x_11 : Int32) (x_15 : Int32) (yk : 0 ≤ n_bk.toInt ∧ n_bk.toInt ≤ 16) (t_2 : n_bk.toInt < (16 : Int)) (t_5 : 0 ≤ x_3.toInt ∧ x_3.toInt ≤ 3) (t_7 : x_3.toInt < (3 : Int)) (t_10 : x_8.toInt = n_bk.toInt * (3 : Int)) (t_13 : 0 ≤ x_11.toInt ∧ x_11.toInt ≤ 3) (t_14 : x_11.toInt = x_3.toInt) (t_17 : x_15.toInt = x_8.toInt + x_11.toInt) : 0 ≤ x_15.toInt ∧ x_15.toInt < ((48 : Nat) : Int) := by
  have := rg_rng n_bk; have := rg_rng x_3; have := rg_rng x_8; have := rg_rng x_11; have := rg_rng x_15; omega
theorem lg_X5_addTest_5 (n_bk : Int32) (x_3 : Int32) (x_8 : Int32) (x_11 : Int32) (x_15 : Int32) (yk : 0 ≤ n_bk.toInt ∧ n_bk.toInt ≤ 16) (t_2 : n_bk.toInt < (16 : Int)) (t_5 : 0 ≤ x_3.toInt ∧ x_3.toInt ≤ 3) (t_7 : x_3.toInt < (3 : Int)) (t_10 : x_8.toInt = n_bk.toInt * (3 : Int)) (t_13 : 0 ≤ x_11.toInt ∧ x_11.toInt ≤ 3) (t_14 : x_11.toInt = x_3.toInt) (t_17 : x_15.toInt = x_8.toInt + x_11.toInt) : 0 ≤ n_bk.toInt ∧ n_bk.toInt < ((16 : Nat) : Int) := by
  have := rg_rng n_bk; have := rg_rng x_3; have := rg_rng x_8; have := rg_rng x_11; have := rg_rng x_15; omega
theorem lg_X5_addTest_6 (n_bk : Int32) (x_3 : Int32) (x_8 : Int32) (x_11 : Int32) (x_15 : Int32) (x_21 : Int32) (yk : 0 ≤ n_bk.toInt ∧ n_bk.toInt ≤ 16) (t_2 : n_bk.toInt < (16 : Int)) (t_5 : 0 ≤ x_3.toInt ∧ x_3.toInt ≤ 3) (t_7 : x_3.toInt < (3 : Int)) (t_10 : x_8.toInt = n_bk.toInt * (3 : Int)) (t_13 : 0 ≤ x_11.toInt ∧ x_11.toInt ≤ 3) (t_14 : x_11.toInt = x_3.toInt) (t_17 : x_15.toInt = x_8.toInt + x_11.toInt) (t_23 : 0 ≤ x_21.toInt ∧ x_21.toInt ≤ 3) (t_24 : x_21.toInt = x_11.toInt) : -2147483648 ≤ x_21.toInt + (1 : Int) ∧ x_21.toInt + (1 : Int) < 2147483648 := by
  have := rg_rng n_bk; have := rg_rng x_3; have := rg_rng x_8; have := rg_rng x_11; have := rg_rng x_15; have := rg_rng x_21; omega
theorem lg_X5_addTest_7 (n_bk : Int32) (x_3 : Int32) (x_8 : Int32) (x_11 : Int32) (x_15 : Int32) (x_21 : Int32) (x_25 : Int32) (yk : 0 ≤ n_bk.toInt ∧ n_bk.toInt ≤ 16) (t_2 : n_bk.toInt < (16 : Int)) (t_5 : 0 ≤ x_3.toInt ∧ x_3.toInt ≤ 3) (t_7 : x_3.toInt < (3 : Int)) (t_10 : x_8.toInt = n_bk.toInt * (3 : Int)) (t_13 : 0 ≤ x_11.toInt ∧ x_11.toInt ≤ 3) (t_14 : x_11.toInt = x_3.toInt) (t_17 : x_15.toInt = x_8.toInt + x_11.toInt) (t_23 : 0 ≤ x_21.toInt ∧ x_21.toInt ≤ 3) (t_24 : x_21.toInt = x_11.toInt) (t_27 : x_25.toInt = x_21.toInt + (1 : Int)) : 0 ≤ n_bk.toInt ∧ n_bk.toInt < ((16 : Nat) : Int) := by
  have := rg_rng n_bk; have := rg_rng x_3; have := rg_rng x_8; have := rg_rng x_11; have := rg_rng x_15; have := rg_rng x_21; have := rg_rng x_25; omega
theorem lg_X5_addTest_8 (n_bk : Int32) (x_3 : Int32) (x_8 : Int32) (x_11 : Int32) (x_15 : Int32) (x_21 : Int32) (x_25 : Int32) (yk : 0 ≤ n_bk.toInt ∧ n_bk.toInt ≤ 16) (t_2 : n_bk.toInt < (16 : Int)) (t_5 : 0 ≤ x_3.toInt ∧ x_3.toInt ≤ 3) (t_7 : x_3.toInt < (3 : Int)) (t_10 : x_8.toInt = n_bk.toInt * (3 : Int)) (t_13 : 0 ≤ x_11.toInt ∧ x_11.toInt ≤ 3) (t_14 : x_11.toInt = x_3.toInt) (t_17 : x_15.toInt = x_8.toInt + x_11.toInt) (t_23 : 0 ≤ x_21.toInt ∧ x_21.toInt ≤ 3) (t_24 : x_21.toInt = x_11.toInt) (t_27 : x_25.toInt = x_21.toInt + (1 : Int)) : 0 ≤ x_25.toInt ∧ x_25.toInt ≤ 3 := by
  have := rg_rng n_bk; have := rg_rng x_3; have := rg_rng x_8; have := rg_rng x_11; have := rg_rng x_15; have := rg_rng x_21; have := rg_rng x_25; omega
set_option maxHeartbeats 4000000 in
set_option maxRecDepth 100000 in
theorem kX5_addTest (l : Launch) (dC : Nat → ClassId) (dI : Nat → Nat → Nat) (sz : Nat) (h0 : Nat) (b_deed : Nat) (b_value : Nat) (b_tests : Nat) (b_thing : Nat) (b_sign : Nat) (b_number : Nat) (n_bk : Int32) (k_tests : ClassId) (k_thing : ClassId) (k_sign : ClassId) (k_number : ClassId) (f_tests : Nat → Int32) (f_thing : Nat → Int32) (f_sign : Nat → Int32) (f_number : Nat → Int32) (v1 : Int32) (v2 : Int32) (v3 : Int32) (yk : 0 ≤ n_bk.toInt ∧ n_bk.toInt ≤ 16) (yt : Rg f_tests 16 0 3) : Met l yX5_addTest (Cond.code yX5_addTest cX5_addTest 5 none :: bg) ({ frames := 0, cells := 0, slots := 0, locals := 0 }) (pcW dC dI [.ref h0, .int v1, .int v2, .int v3] sz [(h0, .inr (5, [.ref b_deed, .ref b_value, .ref b_tests, .ref b_thing, .ref b_sign, .ref b_number, .int n_bk])), (b_tests, .inl (k_tests, 16, .inl f_tests)), (b_thing, .inl (k_thing, 48, .inl f_thing)), (b_sign, .inl (k_sign, 48, .inl f_sign)), (b_number, .inl (k_number, 48, .inl f_number))] [(k_tests, .int), (k_thing, .int), (k_sign, .int), (k_number, .int)]) (va_Qv (fun (u : Unit) => True) (fun (u : Unit) (t : State) => ∃ (w_tests : Nat → Int32) (w_thing : Nat → Int32) (w_sign : Nat → Int32) (w_number : Nat → Int32), Rg w_tests 16 0 3 ∧ va_P (dC, dI) vwCl [(h0, .inr (5, [.ref b_deed, .ref b_value, .ref b_tests, .ref b_thing, .ref b_sign, .ref b_number, .int n_bk])), (b_tests, .inl (k_tests, 16, .inl w_tests)), (b_thing, .inl (k_thing, 48, .inl w_thing)), (b_sign, .inl (k_sign, 48, .inl w_sign)), (b_number, .inl (k_number, 48, .inl w_number))] t.heap ∧ va_K (dC, dI) vwCl [] t ∧ va_D (va_A [(h0, .inr (5, [.ref b_deed, .ref b_value, .ref b_tests, .ref b_thing, .ref b_sign, .ref b_number, .int n_bk])), (b_tests, .inl (k_tests, 16, .inl f_tests)), (b_thing, .inl (k_thing, 48, .inl f_thing)), (b_sign, .inl (k_sign, 48, .inl f_sign)), (b_number, .inl (k_number, 48, .inl f_number))] sz) [(h0, .inr (5, [.ref b_deed, .ref b_value, .ref b_tests, .ref b_thing, .ref b_sign, .ref b_number, .int n_bk])), (b_tests, .inl (k_tests, 16, .inl w_tests)), (b_thing, .inl (k_thing, 48, .inl w_thing)), (b_sign, .inl (k_sign, 48, .inl w_sign)), (b_number, .inl (k_number, 48, .inl w_number))]) (va_A [(h0, .inr (5, [.ref b_deed, .ref b_value, .ref b_tests, .ref b_thing, .ref b_sign, .ref b_number, .int n_bk])), (b_tests, .inl (k_tests, 16, .inl f_tests)), (b_thing, .inl (k_thing, 48, .inl f_thing)), (b_sign, .inl (k_sign, 48, .inl f_sign)), (b_number, .inl (k_number, 48, .inl f_number))] sz)) 0 0 (va_A [(h0, .inr (5, [.ref b_deed, .ref b_value, .ref b_tests, .ref b_thing, .ref b_sign, .ref b_number, .int n_bk])), (b_tests, .inl (k_tests, 16, .inl f_tests)), (b_thing, .inl (k_thing, 48, .inl f_thing)), (b_sign, .inl (k_sign, 48, .inl f_sign)), (b_number, .inl (k_number, 48, .inl f_number))] sz) := by
  refine Met.ofW (cc := cX5_addTest) (maxL := 5) (ret := none) pnX5 rfl ?_
  intro p e s m args below meth c s₁ B hml hv
  obtain ⟨rfl, hsz, hP, hK, hD0, hN⟩ := hv
  have hx := B.exec
  have hb := B.bytes
  have hr := B.returns
  have htb : ∀ w ∈ bg, w.before [.ref h0, .int v1, .int v2, .int v3].toArray s = true := fun w h => atoms_spec (ws := Cond.code yX5_addTest cX5_addTest 5 none :: bg) B.pre w (List.mem_cons_of_mem _ h)
  have hown : s.vm.findClass RX5 = some m.cls := findClass_of_methodNamed B.named
  have hlocks := B.notSynchronized
  subst hsz
  have hD := hD0.self (sz := s.heap.size)
  generalize hAe : va_A [(h0, .inr (5, [.ref b_deed, .ref b_value, .ref b_tests, .ref b_thing, .ref b_sign, .ref b_number, .int n_bk])), (b_tests, .inl (k_tests, 16, .inl f_tests)), (b_thing, .inl (k_thing, 48, .inl f_thing)), (b_sign, .inl (k_sign, 48, .inl f_sign)), (b_number, .inl (k_number, 48, .inl f_number))] s.heap.size = A at hD ⊢
  have hA : ∀ q : Nat, s.heap.size ≤ q → A q := fun q h => by rw [← hAe]; exact Or.inr h
  have hS : va_S A s.heap s.heap [] := va_S.rf
  have hl := lv_entry ([.ref h0, .int v1, .int v2, .int v3]) (n := 5) (Nat.le_of_ble_eq_true rfl)
  rw [lg_entry_eq]
  generalize (lg_sl ([.ref h0, .int v1, .int v2, .int v3]) ++ List.replicate (5 - (lg_sl ([.ref h0, .int v1, .int v2, .int v3])).length) Slot.unset).toArray = ls at hl ⊢
  change lv_has ls 5 [(0, .ref h0), (1, .int v1), (2, .int v2), (3, .int v3)] at hl
  clear hD0 hAe
  refine go0 (wsP := fun H => va_P (dC, dI) vwCl [(h0, .inr (5, [.ref b_deed, .ref b_value, .ref b_tests, .ref b_thing, .ref b_sign, .ref b_number, .int n_bk])), (b_tests, .inl (k_tests, 16, .inl f_tests)), (b_thing, .inl (k_thing, 48, .inl f_thing)), (b_sign, .inl (k_sign, 48, .inl f_sign)), (b_number, .inl (k_number, 48, .inl f_number))] H) hP hS ?_
  clear hP hS; intro H locs hP hS
  change va_P (dC, dI) vwCl [(h0, .inr (5, [.ref b_deed, .ref b_value, .ref b_tests, .ref b_thing, .ref b_sign, .ref b_number, .int n_bk])), (b_tests, .inl (k_tests, 16, .inl f_tests)), (b_thing, .inl (k_thing, 48, .inl f_thing)), (b_sign, .inl (k_sign, 48, .inl f_sign)), (b_number, .inl (k_number, 48, .inl f_number))] H at hP
  refine lv_aload_n hx hb dX5_addTest_0 rfl (lv_at hl 0 rfl) ?_
  refine va_get (D := (dC, dI)) (ci := 5) (v := .int n_bk) (C := RX5) (T := TX5) (N := 7) hx hb htb iX5 hown hK hP 0 rfl rfl 6 (Nat.le_of_ble_eq_true rfl) (htb _ m_285) (fun _ h9 => h9) rfl dX5_addTest_1 ?_
  refine lv_bipush (v := 16) hx hb dX5_addTest_4 (by decide) ?_
  refine lv_icmp_ge (tgt := 22) hx hb dX5_addTest_6 (by decide) (fun c_1 => ?_) (fun c_1 => ?_)
  · have t_2 : (16 : Int) ≤ n_bk.toInt := i_le (by decide) rfl c_1
    refine W.widen (k := 0) (n := 0) (Nat.le_of_ble_eq_true rfl) (Nat.le_of_ble_eq_true rfl) ?_
    have hP9 := hP.sub (ws' := [(h0, .inr (5, [.ref b_deed, .ref b_value, .ref b_tests, .ref b_thing, .ref b_sign, .ref b_number, .int n_bk])), (b_tests, .inl (k_tests, 16, .inl f_tests)), (b_thing, .inl (k_thing, 48, .inl f_thing)), (b_sign, .inl (k_sign, 48, .inl f_sign)), (b_number, .inl (k_number, 48, .inl f_number))]) [0, 1, 2, 3, 4] rfl
    have hD9 := hD.sub (ws' := [(h0, .inr (5, [.ref b_deed, .ref b_value, .ref b_tests, .ref b_thing, .ref b_sign, .ref b_number, .int n_bk])), (b_tests, .inl (k_tests, 16, .inl f_tests)), (b_thing, .inl (k_thing, 48, .inl f_thing)), (b_sign, .inl (k_sign, 48, .inl f_sign)), (b_number, .inl (k_number, 48, .inl f_number))]) [0, 1, 2, 3, 4] (by decide) rfl
    have hK9 := hK.sub (tys' := []) [] rfl
    exact W.vret hx hb hr (fun t ht hW => ⟨⟨(), rfl, trivial, ⟨f_tests, f_thing, f_sign, f_number, yt, by rw [ht]; exact hP9, va_K.moved hW.alike hK9, hD9⟩⟩, hS.F ht⟩) hS.2.2 dX5_addTest_22
  · have t_2 : n_bk.toInt < (16 : Int) := i_nle (by decide) rfl c_1
    refine lv_aload_n hx hb dX5_addTest_9 rfl (lv_at hl 0 rfl) ?_
    refine va_get (D := (dC, dI)) (ci := 5) (v := .ref b_tests) (C := RX5) (T := TX5) (N := 7) hx hb htb iX5 hown hK hP 0 rfl rfl 2 (Nat.le_of_ble_eq_true rfl) (htb _ m_281) (fun _ h9 => h9) rfl dX5_addTest_10 ?_
    refine lv_aload_n hx hb dX5_addTest_13 rfl (lv_at hl 0 rfl) ?_
    refine va_get (D := (dC, dI)) (ci := 5) (v := .int n_bk) (C := RX5) (T := TX5) (N := 7) hx hb htb iX5 hown hK hP 0 rfl rfl 6 (Nat.le_of_ble_eq_true rfl) (htb _ m_285) (fun _ h9 => h9) rfl dX5_addTest_14 ?_
    refine va_iald hx hb hK hP 1 0 rfl rfl (i_in rfl (lg_X5_addTest_0 n_bk yk t_2)) dX5_addTest_17 ?_
    refine lv_topi (fun x_3 ex_4 => ?_)
    have t_5 : 0 ≤ x_3.toInt ∧ x_3.toInt ≤ 3 := Rg_ld yt (i_in rfl (lg_X5_addTest_0 n_bk yk t_2)) ex_4
    refine lv_iconst (v := 3) hx hb dX5_addTest_18 (by decide) ?_
    refine lv_icmp_lt (tgt := 23) hx hb dX5_addTest_19 (by decide) (fun c_6 => ?_) (fun c_6 => ?_)
    · have t_7 : x_3.toInt < (3 : Int) := i_lt rfl (by decide) c_6
      refine lv_aload_n hx hb dX5_addTest_23 rfl (lv_at hl 0 rfl) ?_
      refine va_get (D := (dC, dI)) (ci := 5) (v := .int n_bk) (C := RX5) (T := TX5) (N := 7) hx hb htb iX5 hown hK hP 0 rfl rfl 6 (Nat.le_of_ble_eq_true rfl) (htb _ m_285) (fun _ h9 => h9) rfl dX5_addTest_24 ?_
      refine lv_iconst (v := 3) hx hb dX5_addTest_27 (by decide) ?_
      refine lv_imul hx hb dX5_addTest_28 ?_
      refine lv_topi (fun x_8 ex_9 => ?_)
      have t_10 : x_8.toInt = n_bk.toInt * (3 : Int) := i_mul rfl (by decide) (lg_X5_addTest_1 n_bk x_3 yk t_2 t_5 t_7) ex_9
      refine lv_aload_n hx hb dX5_addTest_29 rfl (lv_at hl 0 rfl) ?_
      refine va_get (D := (dC, dI)) (ci := 5) (v := .ref b_tests) (C := RX5) (T := TX5) (N := 7) hx hb htb iX5 hown hK hP 0 rfl rfl 2 (Nat.le_of_ble_eq_true rfl) (htb _ m_281) (fun _ h9 => h9) rfl dX5_addTest_30 ?_
      refine lv_aload_n hx hb dX5_addTest_33 rfl (lv_at hl 0 rfl) ?_
      refine va_get (D := (dC, dI)) (ci := 5) (v := .int n_bk) (C := RX5) (T := TX5) (N := 7) hx hb htb iX5 hown hK hP 0 rfl rfl 6 (Nat.le_of_ble_eq_true rfl) (htb _ m_285) (fun _ h9 => h9) rfl dX5_addTest_34 ?_
      refine va_iald hx hb hK hP 1 0 rfl rfl (i_in rfl (lg_X5_addTest_2 n_bk x_3 x_8 yk t_2 t_5 t_7 t_10)) dX5_addTest_37 ?_
      refine lv_topi (fun x_11 ex_12 => ?_)
      have t_13 : 0 ≤ x_11.toInt ∧ x_11.toInt ≤ 3 := Rg_ld yt (i_in rfl (lg_X5_addTest_2 n_bk x_3 x_8 yk t_2 t_5 t_7 t_10)) ex_12
      have t_14 : x_11.toInt = x_3.toInt := by rw [ex_12, ex_4]
      refine lv_iadd hx hb dX5_addTest_38 ?_
      refine lv_topi (fun x_15 ex_16 => ?_)
      have t_17 : x_15.toInt = x_8.toInt + x_11.toInt := i_add rfl rfl (lg_X5_addTest_3 n_bk x_3 x_8 x_11 yk t_2 t_5 t_7 t_10 t_13 t_14) ex_16
      refine lv_istore (lv' := [(4, .int x_15), (0, .ref h0), (1, .int v1), (2, .int v2), (3, .int v3)]) hx hb dX5_addTest_39 hl (by decide) rfl ?_
      clear hl; intro ls hl
      refine lv_aload_n hx hb dX5_addTest_41 rfl (lv_at hl 1 rfl) ?_
      refine va_get (D := (dC, dI)) (ci := 5) (v := .ref b_thing) (C := RX5) (T := TX5) (N := 7) hx hb htb iX5 hown hK hP 0 rfl rfl 3 (Nat.le_of_ble_eq_true rfl) (htb _ m_282) (fun _ h9 => h9) rfl dX5_addTest_42 ?_
      refine lv_iload hx hb dX5_addTest_45 (lv_at hl 0 rfl) ?_
      refine lv_iload_n hx hb dX5_addTest_47 rfl (lv_at hl 2 rfl) ?_
      refine va_iast hx hb hK hP hD hS 2 1 rfl rfl (i_in rfl (lg_X5_addTest_4 n_bk x_3 x_8 x_11 x_15 yk t_2 t_5 t_7 t_10 t_13 t_14 t_17)) dX5_addTest_48 ?_
      clear hP hD hS; intro H locs hP hD hS
      change va_P (dC, dI) vwCl [(h0, .inr (5, [.ref b_deed, .ref b_value, .ref b_tests, .ref b_thing, .ref b_sign, .ref b_number, .int n_bk])), (b_tests, .inl (k_tests, 16, .inl f_tests)), (b_thing, .inl (k_thing, 48, .inl (upd f_thing (Int32.toNatClampNeg x_15) v1))), (b_sign, .inl (k_sign, 48, .inl f_sign)), (b_number, .inl (k_number, 48, .inl f_number))] H at hP
      change va_D A [(h0, .inr (5, [.ref b_deed, .ref b_value, .ref b_tests, .ref b_thing, .ref b_sign, .ref b_number, .int n_bk])), (b_tests, .inl (k_tests, 16, .inl f_tests)), (b_thing, .inl (k_thing, 48, .inl (upd f_thing (Int32.toNatClampNeg x_15) v1))), (b_sign, .inl (k_sign, 48, .inl f_sign)), (b_number, .inl (k_number, 48, .inl f_number))] at hD
      generalize upd f_thing (Int32.toNatClampNeg x_15) v1 = g_18 at hP hD
      refine lv_aload_n hx hb dX5_addTest_49 rfl (lv_at hl 1 rfl) ?_
      refine va_get (D := (dC, dI)) (ci := 5) (v := .ref b_sign) (C := RX5) (T := TX5) (N := 7) hx hb htb iX5 hown hK hP 0 rfl rfl 4 (Nat.le_of_ble_eq_true rfl) (htb _ m_283) (fun _ h9 => h9) rfl dX5_addTest_50 ?_
      refine lv_iload hx hb dX5_addTest_53 (lv_at hl 0 rfl) ?_
      refine lv_iload_n hx hb dX5_addTest_55 rfl (lv_at hl 3 rfl) ?_
      refine va_iast hx hb hK hP hD hS 3 2 rfl rfl (i_in rfl (lg_X5_addTest_4 n_bk x_3 x_8 x_11 x_15 yk t_2 t_5 t_7 t_10 t_13 t_14 t_17)) dX5_addTest_56 ?_
      clear hP hD hS; intro H locs hP hD hS
      change va_P (dC, dI) vwCl [(h0, .inr (5, [.ref b_deed, .ref b_value, .ref b_tests, .ref b_thing, .ref b_sign, .ref b_number, .int n_bk])), (b_tests, .inl (k_tests, 16, .inl f_tests)), (b_thing, .inl (k_thing, 48, .inl g_18)), (b_sign, .inl (k_sign, 48, .inl (upd f_sign (Int32.toNatClampNeg x_15) v2))), (b_number, .inl (k_number, 48, .inl f_number))] H at hP
      change va_D A [(h0, .inr (5, [.ref b_deed, .ref b_value, .ref b_tests, .ref b_thing, .ref b_sign, .ref b_number, .int n_bk])), (b_tests, .inl (k_tests, 16, .inl f_tests)), (b_thing, .inl (k_thing, 48, .inl g_18)), (b_sign, .inl (k_sign, 48, .inl (upd f_sign (Int32.toNatClampNeg x_15) v2))), (b_number, .inl (k_number, 48, .inl f_number))] at hD
      generalize upd f_sign (Int32.toNatClampNeg x_15) v2 = g_19 at hP hD
      refine lv_aload_n hx hb dX5_addTest_57 rfl (lv_at hl 1 rfl) ?_
      refine va_get (D := (dC, dI)) (ci := 5) (v := .ref b_number) (C := RX5) (T := TX5) (N := 7) hx hb htb iX5 hown hK hP 0 rfl rfl 5 (Nat.le_of_ble_eq_true rfl) (htb _ m_284) (fun _ h9 => h9) rfl dX5_addTest_58 ?_
      refine lv_iload hx hb dX5_addTest_61 (lv_at hl 0 rfl) ?_
      refine lv_iload_n hx hb dX5_addTest_63 rfl (lv_at hl 4 rfl) ?_
      refine va_iast hx hb hK hP hD hS 4 3 rfl rfl (i_in rfl (lg_X5_addTest_4 n_bk x_3 x_8 x_11 x_15 yk t_2 t_5 t_7 t_10 t_13 t_14 t_17)) dX5_addTest_64 ?_
      clear hP hD hS; intro H locs hP hD hS
      change va_P (dC, dI) vwCl [(h0, .inr (5, [.ref b_deed, .ref b_value, .ref b_tests, .ref b_thing, .ref b_sign, .ref b_number, .int n_bk])), (b_tests, .inl (k_tests, 16, .inl f_tests)), (b_thing, .inl (k_thing, 48, .inl g_18)), (b_sign, .inl (k_sign, 48, .inl g_19)), (b_number, .inl (k_number, 48, .inl (upd f_number (Int32.toNatClampNeg x_15) v3)))] H at hP
      change va_D A [(h0, .inr (5, [.ref b_deed, .ref b_value, .ref b_tests, .ref b_thing, .ref b_sign, .ref b_number, .int n_bk])), (b_tests, .inl (k_tests, 16, .inl f_tests)), (b_thing, .inl (k_thing, 48, .inl g_18)), (b_sign, .inl (k_sign, 48, .inl g_19)), (b_number, .inl (k_number, 48, .inl (upd f_number (Int32.toNatClampNeg x_15) v3)))] at hD
      generalize upd f_number (Int32.toNatClampNeg x_15) v3 = g_20 at hP hD
      refine lv_aload_n hx hb dX5_addTest_65 rfl (lv_at hl 1 rfl) ?_
      refine va_get (D := (dC, dI)) (ci := 5) (v := .ref b_tests) (C := RX5) (T := TX5) (N := 7) hx hb htb iX5 hown hK hP 0 rfl rfl 2 (Nat.le_of_ble_eq_true rfl) (htb _ m_281) (fun _ h9 => h9) rfl dX5_addTest_66 ?_
      refine lv_aload_n hx hb dX5_addTest_69 rfl (lv_at hl 1 rfl) ?_
      refine va_get (D := (dC, dI)) (ci := 5) (v := .int n_bk) (C := RX5) (T := TX5) (N := 7) hx hb htb iX5 hown hK hP 0 rfl rfl 6 (Nat.le_of_ble_eq_true rfl) (htb _ m_285) (fun _ h9 => h9) rfl dX5_addTest_70 ?_
      refine lv_dup2_11 hx hb dX5_addTest_73 rfl rfl ?_
      refine va_iald hx hb hK hP 1 0 rfl rfl (i_in rfl (lg_X5_addTest_5 n_bk x_3 x_8 x_11 x_15 yk t_2 t_5 t_7 t_10 t_13 t_14 t_17)) dX5_addTest_74 ?_
      refine lv_topi (fun x_21 ex_22 => ?_)
      have t_23 : 0 ≤ x_21.toInt ∧ x_21.toInt ≤ 3 := Rg_ld yt (i_in rfl (lg_X5_addTest_5 n_bk x_3 x_8 x_11 x_15 yk t_2 t_5 t_7 t_10 t_13 t_14 t_17)) ex_22
      have t_24 : x_21.toInt = x_11.toInt := by rw [ex_22, ex_12]
      refine lv_iconst (v := 1) hx hb dX5_addTest_75 (by decide) ?_
      refine lv_iadd hx hb dX5_addTest_76 ?_
      refine lv_topi (fun x_25 ex_26 => ?_)
      have t_27 : x_25.toInt = x_21.toInt + (1 : Int) := i_add rfl (by decide) (lg_X5_addTest_6 n_bk x_3 x_8 x_11 x_15 x_21 yk t_2 t_5 t_7 t_10 t_13 t_14 t_17 t_23 t_24) ex_26
      refine va_iast hx hb hK hP hD hS 1 0 rfl rfl (i_in rfl (lg_X5_addTest_7 n_bk x_3 x_8 x_11 x_15 x_21 x_25 yk t_2 t_5 t_7 t_10 t_13 t_14 t_17 t_23 t_24 t_27)) dX5_addTest_77 ?_
      clear hP hD hS; intro H locs hP hD hS
      change va_P (dC, dI) vwCl [(h0, .inr (5, [.ref b_deed, .ref b_value, .ref b_tests, .ref b_thing, .ref b_sign, .ref b_number, .int n_bk])), (b_tests, .inl (k_tests, 16, .inl (upd f_tests (Int32.toNatClampNeg n_bk) x_25))), (b_thing, .inl (k_thing, 48, .inl g_18)), (b_sign, .inl (k_sign, 48, .inl g_19)), (b_number, .inl (k_number, 48, .inl g_20))] H at hP
      change va_D A [(h0, .inr (5, [.ref b_deed, .ref b_value, .ref b_tests, .ref b_thing, .ref b_sign, .ref b_number, .int n_bk])), (b_tests, .inl (k_tests, 16, .inl (upd f_tests (Int32.toNatClampNeg n_bk) x_25))), (b_thing, .inl (k_thing, 48, .inl g_18)), (b_sign, .inl (k_sign, 48, .inl g_19)), (b_number, .inl (k_number, 48, .inl g_20))] at hD
      have hR_29 : Rg (upd f_tests (Int32.toNatClampNeg n_bk) x_25) 16 0 3 := Rg_st yt rfl (lg_X5_addTest_8 n_bk x_3 x_8 x_11 x_15 x_21 x_25 yk t_2 t_5 t_7 t_10 t_13 t_14 t_17 t_23 t_24 t_27)
      generalize upd f_tests (Int32.toNatClampNeg n_bk) x_25 = g_28 at hP hD hR_29
      refine W.widen (k := 0) (n := 0) (Nat.le_of_ble_eq_true rfl) (Nat.le_of_ble_eq_true rfl) ?_
      have hP9 := hP.sub (ws' := [(h0, .inr (5, [.ref b_deed, .ref b_value, .ref b_tests, .ref b_thing, .ref b_sign, .ref b_number, .int n_bk])), (b_tests, .inl (k_tests, 16, .inl g_28)), (b_thing, .inl (k_thing, 48, .inl g_18)), (b_sign, .inl (k_sign, 48, .inl g_19)), (b_number, .inl (k_number, 48, .inl g_20))]) [0, 1, 2, 3, 4] rfl
      have hD9 := hD.sub (ws' := [(h0, .inr (5, [.ref b_deed, .ref b_value, .ref b_tests, .ref b_thing, .ref b_sign, .ref b_number, .int n_bk])), (b_tests, .inl (k_tests, 16, .inl g_28)), (b_thing, .inl (k_thing, 48, .inl g_18)), (b_sign, .inl (k_sign, 48, .inl g_19)), (b_number, .inl (k_number, 48, .inl g_20))]) [0, 1, 2, 3, 4] (by decide) rfl
      have hK9 := hK.sub (tys' := []) [] rfl
      exact W.vret hx hb hr (fun t ht hW => ⟨⟨(), rfl, trivial, ⟨g_28, g_18, g_19, g_20, hR_29, by rw [ht]; exact hP9, va_K.moved hW.alike hK9, hD9⟩⟩, hS.F ht⟩) hS.2.2 dX5_addTest_78
    · have t_7 : (3 : Int) ≤ x_3.toInt := i_nlt rfl (by decide) c_6
      refine W.widen (k := 0) (n := 0) (Nat.le_of_ble_eq_true rfl) (Nat.le_of_ble_eq_true rfl) ?_
      have hP9 := hP.sub (ws' := [(h0, .inr (5, [.ref b_deed, .ref b_value, .ref b_tests, .ref b_thing, .ref b_sign, .ref b_number, .int n_bk])), (b_tests, .inl (k_tests, 16, .inl f_tests)), (b_thing, .inl (k_thing, 48, .inl f_thing)), (b_sign, .inl (k_sign, 48, .inl f_sign)), (b_number, .inl (k_number, 48, .inl f_number))]) [0, 1, 2, 3, 4] rfl
      have hD9 := hD.sub (ws' := [(h0, .inr (5, [.ref b_deed, .ref b_value, .ref b_tests, .ref b_thing, .ref b_sign, .ref b_number, .int n_bk])), (b_tests, .inl (k_tests, 16, .inl f_tests)), (b_thing, .inl (k_thing, 48, .inl f_thing)), (b_sign, .inl (k_sign, 48, .inl f_sign)), (b_number, .inl (k_number, 48, .inl f_number))]) [0, 1, 2, 3, 4] (by decide) rfl
      have hK9 := hK.sub (tys' := []) [] rfl
      exact W.vret hx hb hr (fun t ht hW => ⟨⟨(), rfl, trivial, ⟨f_tests, f_thing, f_sign, f_number, yt, by rw [ht]; exact hP9, va_K.moved hW.alike hK9, hD9⟩⟩, hS.F ht⟩) hS.2.2 dX5_addTest_22

theorem lg_X5_holds_0 (v1 : Int32) (v2 : Int32) (v3 : Int32) (t_2 : ¬ v1.toInt = (-1 : Int)) (e_3 : v2 = 60) (t_5 : v3.toInt ≤ v1.toInt) : True := by
  have := rg_rng v1; have := rg_rng v3; trivial
theorem lg_X5_holds_1 (v1 : Int32) (v2 : Int32) (v3 : Int32) (t_2 : ¬ v1.toInt = (-1 : Int)) (e_3 : v2 = 60) (t_5 : v1.toInt < v3.toInt) : True := by
  have := rg_rng v1; have := rg_rng v3; trivial
theorem lg_X5_holds_2 (v1 : Int32) (v2 : Int32) (v3 : Int32) (t_2 : ¬ v1.toInt = (-1 : Int)) (e_3 : ¬ v2 = 60) (e_6 : v2 = 62) (t_8 : v1.toInt ≤ v3.toInt) : True := by
  have := rg_rng v1; have := rg_rng v3; trivial
theorem lg_X5_holds_3 (v1 : Int32) (v2 : Int32) (v3 : Int32) (t_2 : ¬ v1.toInt = (-1 : Int)) (e_3 : ¬ v2 = 60) (e_6 : v2 = 62) (t_8 : v3.toInt < v1.toInt) : True := by
  have := rg_rng v1; have := rg_rng v3; trivial
theorem lg_X5_holds_4 (v1 : Int32) (v2 : Int32) (v3 : Int32) (t_2 : ¬ v1.toInt = (-1 : Int)) (e_3 : ¬ v2 = 60) (e_6 : ¬ v2 = 62) (t_10 : ¬ v1.toInt = v3.toInt) : True := by
  have := rg_rng v1; have := rg_rng v3; trivial
theorem lg_X5_holds_5 (v1 : Int32) (v2 : Int32) (v3 : Int32) (t_2 : ¬ v1.toInt = (-1 : Int)) (e_3 : ¬ v2 = 60) (e_6 : ¬ v2 = 62) (t_10 : v1.toInt = v3.toInt) : True := by
  have := rg_rng v1; have := rg_rng v3; trivial
theorem lg_X5_holds_6 (v1 : Int32) (t_2 : v1.toInt = (-1 : Int)) : True := by
  have := rg_rng v1; trivial
set_option maxHeartbeats 4000000 in
set_option maxRecDepth 100000 in
theorem kX5_holds (l : Launch) (dC : Nat → ClassId) (dI : Nat → Nat → Nat) (sz : Nat) (v1 : Int32) (v2 : Int32) (v3 : Int32) : Met l yX5_holds (Cond.code yX5_holds cX5_holds 3 (some .boolean) :: bg) ({ frames := 0, cells := 0, slots := 0, locals := 0 }) (pcW dC dI [.int v1, .int v2, .int v3] sz [] []) (va_Qi (fun (r : Int32) (u : Unit) => (r = 1 ∧ True) ∨ (r = 0 ∧ True)) (fun (u : Unit) (t : State) => va_P (dC, dI) vwCl [] t.heap ∧ va_K (dC, dI) vwCl [] t ∧ va_D (va_A [] sz) []) (va_A [] sz)) 0 0 (va_A [] sz) := by
  refine Met.ofW (cc := cX5_holds) (maxL := 3) (ret := (some .boolean)) pnX5 rfl ?_
  intro p e s m args below meth c s₁ B hml hv
  obtain ⟨rfl, hsz, hP, hK, hD0, hN⟩ := hv
  have hx := B.exec
  have hb := B.bytes
  have hr := B.returns
  have htb : ∀ w ∈ bg, w.before [.int v1, .int v2, .int v3].toArray s = true := fun w h => atoms_spec (ws := Cond.code yX5_holds cX5_holds 3 (some .boolean) :: bg) B.pre w (List.mem_cons_of_mem _ h)
  have hown : s.vm.findClass RX5 = some m.cls := findClass_of_methodNamed B.named
  have hlocks := B.notSynchronized
  subst hsz
  have hD := hD0.self (sz := s.heap.size)
  generalize hAe : va_A [] s.heap.size = A at hD ⊢
  have hA : ∀ q : Nat, s.heap.size ≤ q → A q := fun q h => by rw [← hAe]; exact Or.inr h
  have hS : va_S A s.heap s.heap [] := va_S.rf
  have hl := lv_entry ([.int v1, .int v2, .int v3]) (n := 3) (Nat.le_of_ble_eq_true rfl)
  rw [lg_entry_eq]
  generalize (lg_sl ([.int v1, .int v2, .int v3]) ++ List.replicate (3 - (lg_sl ([.int v1, .int v2, .int v3])).length) Slot.unset).toArray = ls at hl ⊢
  change lv_has ls 3 [(0, .int v1), (1, .int v2), (2, .int v3)] at hl
  clear hD0 hAe
  refine go0 (wsP := fun H => va_P (dC, dI) vwCl [] H) hP hS ?_
  clear hP hS; intro H locs hP hS
  change va_P (dC, dI) vwCl [] H at hP
  refine lv_iload_n hx hb dX5_holds_0 rfl (lv_at hl 0 rfl) ?_
  refine lv_iconst (v := (-1)) hx hb dX5_holds_1 (by decide) ?_
  refine lv_icmp_ne (tgt := 7) hx hb dX5_holds_2 (by decide) (fun c_1 => ?_) (fun c_1 => ?_)
  · have t_2 : ¬ v1.toInt = (-1 : Int) := i_ne rfl (by decide) c_1
    refine lv_iload_n hx hb dX5_holds_7 rfl (lv_at hl 1 rfl) ?_
    by_cases e_3 : v2 = 60
    · refine lv_lookup (off := 28) (tgt := 36) hx hb dX5_holds_8 (by decide) (by rw [e_3]; decide) (by decide) ?_
      refine lv_iload_n hx hb dX5_holds_36 rfl (lv_at hl 0 rfl) ?_
      refine lv_iload_n hx hb dX5_holds_37 rfl (lv_at hl 2 rfl) ?_
      refine lv_icmp_ge (tgt := 45) hx hb dX5_holds_38 (by decide) (fun c_4 => ?_) (fun c_4 => ?_)
      · have t_5 : v3.toInt ≤ v1.toInt := i_le rfl rfl c_4
        refine lv_iconst (v := 0) hx hb dX5_holds_45 (by decide) ?_
        refine W.widen (k := 0) (n := 0) (Nat.le_of_ble_eq_true rfl) (Nat.le_of_ble_eq_true rfl) ?_
        have hP9 := hP.sub (ws' := []) [] rfl
        have hD9 := hD.sub (ws' := []) [] (by decide) rfl
        have hK9 := hK.sub (tys' := []) [] rfl
        exact W.zret (ty := .boolean) (v := 0) hx hb hr rfl (fun t ht hW => ⟨⟨0, (), rfl, (Or.inr (⟨rfl, (lg_X5_holds_0 v1 v2 v3 t_2 e_3 t_5)⟩)), ⟨by rw [ht]; exact hP9, va_K.moved hW.alike hK9, hD9⟩⟩, hS.F ht⟩) hS.2.2 dX5_holds_46
      · have t_5 : v1.toInt < v3.toInt := i_nle rfl rfl c_4
        refine lv_iconst (v := 1) hx hb dX5_holds_41 (by decide) ?_
        refine lv_goto (tgt := 46) hx hb dX5_holds_42 (by decide) ?_
        refine W.widen (k := 0) (n := 0) (Nat.le_of_ble_eq_true rfl) (Nat.le_of_ble_eq_true rfl) ?_
        have hP9 := hP.sub (ws' := []) [] rfl
        have hD9 := hD.sub (ws' := []) [] (by decide) rfl
        have hK9 := hK.sub (tys' := []) [] rfl
        exact W.zret (ty := .boolean) (v := 1) hx hb hr rfl (fun t ht hW => ⟨⟨1, (), rfl, (Or.inl ⟨rfl, (lg_X5_holds_1 v1 v2 v3 t_2 e_3 t_5)⟩), ⟨by rw [ht]; exact hP9, va_K.moved hW.alike hK9, hD9⟩⟩, hS.F ht⟩) hS.2.2 dX5_holds_46
    by_cases e_6 : v2 = 62
    · refine lv_lookup (off := 39) (tgt := 47) hx hb dX5_holds_8 (by decide) (by rw [e_6]; decide) (by decide) ?_
      refine lv_iload_n hx hb dX5_holds_47 rfl (lv_at hl 0 rfl) ?_
      refine lv_iload_n hx hb dX5_holds_48 rfl (lv_at hl 2 rfl) ?_
      refine lv_icmp_le (tgt := 56) hx hb dX5_holds_49 (by decide) (fun c_7 => ?_) (fun c_7 => ?_)
      · have t_8 : v1.toInt ≤ v3.toInt := i_le rfl rfl c_7
        refine lv_iconst (v := 0) hx hb dX5_holds_56 (by decide) ?_
        refine W.widen (k := 0) (n := 0) (Nat.le_of_ble_eq_true rfl) (Nat.le_of_ble_eq_true rfl) ?_
        have hP9 := hP.sub (ws' := []) [] rfl
        have hD9 := hD.sub (ws' := []) [] (by decide) rfl
        have hK9 := hK.sub (tys' := []) [] rfl
        exact W.zret (ty := .boolean) (v := 0) hx hb hr rfl (fun t ht hW => ⟨⟨0, (), rfl, (Or.inr (⟨rfl, (lg_X5_holds_2 v1 v2 v3 t_2 e_3 e_6 t_8)⟩)), ⟨by rw [ht]; exact hP9, va_K.moved hW.alike hK9, hD9⟩⟩, hS.F ht⟩) hS.2.2 dX5_holds_57
      · have t_8 : v3.toInt < v1.toInt := i_nle rfl rfl c_7
        refine lv_iconst (v := 1) hx hb dX5_holds_52 (by decide) ?_
        refine lv_goto (tgt := 57) hx hb dX5_holds_53 (by decide) ?_
        refine W.widen (k := 0) (n := 0) (Nat.le_of_ble_eq_true rfl) (Nat.le_of_ble_eq_true rfl) ?_
        have hP9 := hP.sub (ws' := []) [] rfl
        have hD9 := hD.sub (ws' := []) [] (by decide) rfl
        have hK9 := hK.sub (tys' := []) [] rfl
        exact W.zret (ty := .boolean) (v := 1) hx hb hr rfl (fun t ht hW => ⟨⟨1, (), rfl, (Or.inl ⟨rfl, (lg_X5_holds_3 v1 v2 v3 t_2 e_3 e_6 t_8)⟩), ⟨by rw [ht]; exact hP9, va_K.moved hW.alike hK9, hD9⟩⟩, hS.F ht⟩) hS.2.2 dX5_holds_57
    refine lv_lookup (off := 50) (tgt := 58) hx hb dX5_holds_8 (by decide) ((lv_osw e_3 (by decide)).trans ((lv_osw e_6 (by decide)).trans rfl)) (by decide) ?_
    refine lv_iload_n hx hb dX5_holds_58 rfl (lv_at hl 0 rfl) ?_
    refine lv_iload_n hx hb dX5_holds_59 rfl (lv_at hl 2 rfl) ?_
    refine lv_icmp_ne (tgt := 67) hx hb dX5_holds_60 (by decide) (fun c_9 => ?_) (fun c_9 => ?_)
    · have t_10 : ¬ v1.toInt = v3.toInt := i_ne rfl rfl c_9
      refine lv_iconst (v := 0) hx hb dX5_holds_67 (by decide) ?_
      refine W.widen (k := 0) (n := 0) (Nat.le_of_ble_eq_true rfl) (Nat.le_of_ble_eq_true rfl) ?_
      have hP9 := hP.sub (ws' := []) [] rfl
      have hD9 := hD.sub (ws' := []) [] (by decide) rfl
      have hK9 := hK.sub (tys' := []) [] rfl
      exact W.zret (ty := .boolean) (v := 0) hx hb hr rfl (fun t ht hW => ⟨⟨0, (), rfl, (Or.inr (⟨rfl, (lg_X5_holds_4 v1 v2 v3 t_2 e_3 e_6 t_10)⟩)), ⟨by rw [ht]; exact hP9, va_K.moved hW.alike hK9, hD9⟩⟩, hS.F ht⟩) hS.2.2 dX5_holds_68
    · have t_10 : v1.toInt = v3.toInt := i_eq rfl rfl c_9
      refine lv_iconst (v := 1) hx hb dX5_holds_63 (by decide) ?_
      refine lv_goto (tgt := 68) hx hb dX5_holds_64 (by decide) ?_
      refine W.widen (k := 0) (n := 0) (Nat.le_of_ble_eq_true rfl) (Nat.le_of_ble_eq_true rfl) ?_
      have hP9 := hP.sub (ws' := []) [] rfl
      have hD9 := hD.sub (ws' := []) [] (by decide) rfl
      have hK9 := hK.sub (tys' := []) [] rfl
      exact W.zret (ty := .boolean) (v := 1) hx hb hr rfl (fun t ht hW => ⟨⟨1, (), rfl, (Or.inl ⟨rfl, (lg_X5_holds_5 v1 v2 v3 t_2 e_3 e_6 t_10)⟩), ⟨by rw [ht]; exact hP9, va_K.moved hW.alike hK9, hD9⟩⟩, hS.F ht⟩) hS.2.2 dX5_holds_68
  · have t_2 : v1.toInt = (-1 : Int) := i_eq rfl (by decide) c_1
    refine lv_iconst (v := 0) hx hb dX5_holds_5 (by decide) ?_
    refine W.widen (k := 0) (n := 0) (Nat.le_of_ble_eq_true rfl) (Nat.le_of_ble_eq_true rfl) ?_
    have hP9 := hP.sub (ws' := []) [] rfl
    have hD9 := hD.sub (ws' := []) [] (by decide) rfl
    have hK9 := hK.sub (tys' := []) [] rfl
    exact W.zret (ty := .boolean) (v := 0) hx hb hr rfl (fun t ht hW => ⟨⟨0, (), rfl, (Or.inr (⟨rfl, (lg_X5_holds_6 v1 t_2)⟩)), ⟨by rw [ht]; exact hP9, va_K.moved hW.alike hK9, hD9⟩⟩, hS.F ht⟩) hS.2.2 dX5_holds_6

theorem lg_X9_hasRoomFor_0 (v1 : Int32) (yv : 0 ≤ v1.toInt ∧ v1.toInt ≤ 600) : -2147483648 ≤ (600 : Int) - v1.toInt ∧ (600 : Int) - v1.toInt < 2147483648 := by
  have := rg_rng v1; omega
theorem lg_X9_hasRoomFor_1 (n_ta : Int32) (v1 : Int32) (x_1 : Int32) (yv : 0 ≤ v1.toInt ∧ v1.toInt ≤ 600) (t_3 : x_1.toInt = (600 : Int) - v1.toInt) (t_5 : x_1.toInt < n_ta.toInt) : 600 < n_ta.toInt + v1.toInt := by
  have := rg_rng n_ta; have := rg_rng v1; have := rg_rng x_1; omega
theorem lg_X9_hasRoomFor_2 (n_ta : Int32) (v1 : Int32) (x_1 : Int32) (yv : 0 ≤ v1.toInt ∧ v1.toInt ≤ 600) (t_3 : x_1.toInt = (600 : Int) - v1.toInt) (t_5 : n_ta.toInt ≤ x_1.toInt) : n_ta.toInt + v1.toInt ≤ 600 := by
  have := rg_rng n_ta; have := rg_rng v1; have := rg_rng x_1; omega
set_option maxHeartbeats 4000000 in
set_option maxRecDepth 100000 in
theorem kX9_hasRoomFor (l : Launch) (dC : Nat → ClassId) (dI : Nat → Nat → Nat) (sz : Nat) (h0 : Nat) (p_bytes : Nat) (p_ts : Nat) (p_tc : Nat) (n_ta : Int32) (n_to : Int32) (n_tl : Int32) (v1 : Int32) (yv : 0 ≤ v1.toInt ∧ v1.toInt ≤ 600) : Met l yX9_hasRoomFor (Cond.code yX9_hasRoomFor cX9_hasRoomFor 2 (some .boolean) :: bg) ({ frames := 0, cells := 0, slots := 0, locals := 0 }) (pcW dC dI [.ref h0, .int v1] sz [(h0, .inr (9, [.ref p_bytes, .ref p_ts, .ref p_tc, .int n_ta, .int n_to, .int n_tl]))] []) (va_Qi (fun (r : Int32) (u : Unit) => (r = 1 ∧ n_ta.toInt + v1.toInt ≤ 600) ∨ (r = 0 ∧ 600 < n_ta.toInt + v1.toInt)) (fun (u : Unit) (t : State) => va_P (dC, dI) vwCl [(h0, .inr (9, [.ref p_bytes, .ref p_ts, .ref p_tc, .int n_ta, .int n_to, .int n_tl]))] t.heap ∧ va_K (dC, dI) vwCl [] t ∧ va_D (va_A [(h0, .inr (9, [.ref p_bytes, .ref p_ts, .ref p_tc, .int n_ta, .int n_to, .int n_tl]))] sz) [(h0, .inr (9, [.ref p_bytes, .ref p_ts, .ref p_tc, .int n_ta, .int n_to, .int n_tl]))]) (va_A [(h0, .inr (9, [.ref p_bytes, .ref p_ts, .ref p_tc, .int n_ta, .int n_to, .int n_tl]))] sz)) 0 0 (va_A [(h0, .inr (9, [.ref p_bytes, .ref p_ts, .ref p_tc, .int n_ta, .int n_to, .int n_tl]))] sz) := by
  refine Met.ofW (cc := cX9_hasRoomFor) (maxL := 2) (ret := (some .boolean)) pnX9 rfl ?_
  intro p e s m args below meth c s₁ B hml hv
  obtain ⟨rfl, hsz, hP, hK, hD0, hN⟩ := hv
  have hx := B.exec
  have hb := B.bytes
  have hr := B.returns
  have htb : ∀ w ∈ bg, w.before [.ref h0, .int v1].toArray s = true := fun w h => atoms_spec (ws := Cond.code yX9_hasRoomFor cX9_hasRoomFor 2 (some .boolean) :: bg) B.pre w (List.mem_cons_of_mem _ h)
  have hown : s.vm.findClass RX9 = some m.cls := findClass_of_methodNamed B.named
  have hlocks := B.notSynchronized
  subst hsz
  have hD := hD0.self (sz := s.heap.size)
  generalize hAe : va_A [(h0, .inr (9, [.ref p_bytes, .ref p_ts, .ref p_tc, .int n_ta, .int n_to, .int n_tl]))] s.heap.size = A at hD ⊢
  have hA : ∀ q : Nat, s.heap.size ≤ q → A q := fun q h => by rw [← hAe]; exact Or.inr h
  have hS : va_S A s.heap s.heap [] := va_S.rf
  have hl := lv_entry ([.ref h0, .int v1]) (n := 2) (Nat.le_of_ble_eq_true rfl)
  rw [lg_entry_eq]
  generalize (lg_sl ([.ref h0, .int v1]) ++ List.replicate (2 - (lg_sl ([.ref h0, .int v1])).length) Slot.unset).toArray = ls at hl ⊢
  change lv_has ls 2 [(0, .ref h0), (1, .int v1)] at hl
  clear hD0 hAe
  refine go0 (wsP := fun H => va_P (dC, dI) vwCl [(h0, .inr (9, [.ref p_bytes, .ref p_ts, .ref p_tc, .int n_ta, .int n_to, .int n_tl]))] H) hP hS ?_
  clear hP hS; intro H locs hP hS
  change va_P (dC, dI) vwCl [(h0, .inr (9, [.ref p_bytes, .ref p_ts, .ref p_tc, .int n_ta, .int n_to, .int n_tl]))] H at hP
  refine lv_aload_n hx hb dX9_hasRoomFor_0 rfl (lv_at hl 0 rfl) ?_
  refine va_get (D := (dC, dI)) (ci := 9) (v := .int n_ta) (C := RX9) (T := TX9) (N := 6) hx hb htb iX9 hown hK hP 0 rfl rfl 3 (Nat.le_of_ble_eq_true rfl) (htb _ m_239) (fun _ h9 => h9) rfl dX9_hasRoomFor_1 ?_
  refine lv_sipush (v := 600) hx hb dX9_hasRoomFor_4 (by decide) ?_
  refine lv_iload_n hx hb dX9_hasRoomFor_7 rfl (lv_at hl 1 rfl) ?_
  refine lv_isub hx hb dX9_hasRoomFor_8 ?_
  refine lv_topi (fun x_1 ex_2 => ?_)
  have t_3 : x_1.toInt = (600 : Int) - v1.toInt := i_sub (by decide) rfl (lg_X9_hasRoomFor_0 v1 yv) ex_2
  refine lv_icmp_gt (tgt := 16) hx hb dX9_hasRoomFor_9 (by decide) (fun c_4 => ?_) (fun c_4 => ?_)
  · have t_5 : x_1.toInt < n_ta.toInt := i_lt rfl rfl c_4
    refine lv_iconst (v := 0) hx hb dX9_hasRoomFor_16 (by decide) ?_
    refine W.widen (k := 0) (n := 0) (Nat.le_of_ble_eq_true rfl) (Nat.le_of_ble_eq_true rfl) ?_
    have hP9 := hP.sub (ws' := [(h0, .inr (9, [.ref p_bytes, .ref p_ts, .ref p_tc, .int n_ta, .int n_to, .int n_tl]))]) [0] rfl
    have hD9 := hD.sub (ws' := [(h0, .inr (9, [.ref p_bytes, .ref p_ts, .ref p_tc, .int n_ta, .int n_to, .int n_tl]))]) [0] (by decide) rfl
    have hK9 := hK.sub (tys' := []) [] rfl
    exact W.zret (ty := .boolean) (v := 0) hx hb hr rfl (fun t ht hW => ⟨⟨0, (), rfl, (Or.inr (⟨rfl, (lg_X9_hasRoomFor_1 n_ta v1 x_1 yv t_3 t_5)⟩)), ⟨by rw [ht]; exact hP9, va_K.moved hW.alike hK9, hD9⟩⟩, hS.F ht⟩) hS.2.2 dX9_hasRoomFor_17
  · have t_5 : n_ta.toInt ≤ x_1.toInt := i_nlt rfl rfl c_4
    refine lv_iconst (v := 1) hx hb dX9_hasRoomFor_12 (by decide) ?_
    refine lv_goto (tgt := 17) hx hb dX9_hasRoomFor_13 (by decide) ?_
    refine W.widen (k := 0) (n := 0) (Nat.le_of_ble_eq_true rfl) (Nat.le_of_ble_eq_true rfl) ?_
    have hP9 := hP.sub (ws' := [(h0, .inr (9, [.ref p_bytes, .ref p_ts, .ref p_tc, .int n_ta, .int n_to, .int n_tl]))]) [0] rfl
    have hD9 := hD.sub (ws' := [(h0, .inr (9, [.ref p_bytes, .ref p_ts, .ref p_tc, .int n_ta, .int n_to, .int n_tl]))]) [0] (by decide) rfl
    have hK9 := hK.sub (tys' := []) [] rfl
    exact W.zret (ty := .boolean) (v := 1) hx hb hr rfl (fun t ht hW => ⟨⟨1, (), rfl, (Or.inl ⟨rfl, (lg_X9_hasRoomFor_2 n_ta v1 x_1 yv t_3 t_5)⟩), ⟨by rw [ht]; exact hP9, va_K.moved hW.alike hK9, hD9⟩⟩, hS.F ht⟩) hS.2.2 dX9_hasRoomFor_17

set_option maxHeartbeats 4000000 in
set_option maxRecDepth 100000 in
theorem kX9_clear (l : Launch) (dC : Nat → ClassId) (dI : Nat → Nat → Nat) (sz : Nat) (h0 : Nat) (p_bytes : Nat) (p_ts : Nat) (p_tc : Nat) (n_ta : Int32) (n_to : Int32) (n_tl : Int32) : Met l yX9_clear (Cond.code yX9_clear cX9_clear 1 none :: bg) ({ frames := 0, cells := 0, slots := 0, locals := 0 }) (pcW dC dI [.ref h0] sz [(h0, .inr (9, [.ref p_bytes, .ref p_ts, .ref p_tc, .int n_ta, .int n_to, .int n_tl]))] []) (va_Qv (fun (u : Unit) => True) (fun (u : Unit) (t : State) => va_P (dC, dI) vwCl [(h0, .inr (9, [.ref p_bytes, .ref p_ts, .ref p_tc, .int 0, .int n_to, .int n_tl]))] t.heap ∧ va_K (dC, dI) vwCl [] t ∧ va_D (va_A [(h0, .inr (9, [.ref p_bytes, .ref p_ts, .ref p_tc, .int n_ta, .int n_to, .int n_tl]))] sz) [(h0, .inr (9, [.ref p_bytes, .ref p_ts, .ref p_tc, .int 0, .int n_to, .int n_tl]))]) (va_A [(h0, .inr (9, [.ref p_bytes, .ref p_ts, .ref p_tc, .int n_ta, .int n_to, .int n_tl]))] sz)) 0 0 (va_A [(h0, .inr (9, [.ref p_bytes, .ref p_ts, .ref p_tc, .int n_ta, .int n_to, .int n_tl]))] sz) := by
  refine Met.ofW (cc := cX9_clear) (maxL := 1) (ret := none) pnX9 rfl ?_
  intro p e s m args below meth c s₁ B hml hv
  obtain ⟨rfl, hsz, hP, hK, hD0, hN⟩ := hv
  have hx := B.exec
  have hb := B.bytes
  have hr := B.returns
  have htb : ∀ w ∈ bg, w.before [.ref h0].toArray s = true := fun w h => atoms_spec (ws := Cond.code yX9_clear cX9_clear 1 none :: bg) B.pre w (List.mem_cons_of_mem _ h)
  have hown : s.vm.findClass RX9 = some m.cls := findClass_of_methodNamed B.named
  have hlocks := B.notSynchronized
  subst hsz
  have hD := hD0.self (sz := s.heap.size)
  generalize hAe : va_A [(h0, .inr (9, [.ref p_bytes, .ref p_ts, .ref p_tc, .int n_ta, .int n_to, .int n_tl]))] s.heap.size = A at hD ⊢
  have hA : ∀ q : Nat, s.heap.size ≤ q → A q := fun q h => by rw [← hAe]; exact Or.inr h
  have hS : va_S A s.heap s.heap [] := va_S.rf
  have hl := lv_entry ([.ref h0]) (n := 1) (Nat.le_of_ble_eq_true rfl)
  rw [lg_entry_eq]
  generalize (lg_sl ([.ref h0]) ++ List.replicate (1 - (lg_sl ([.ref h0])).length) Slot.unset).toArray = ls at hl ⊢
  change lv_has ls 1 [(0, .ref h0)] at hl
  clear hD0 hAe
  refine go0 (wsP := fun H => va_P (dC, dI) vwCl [(h0, .inr (9, [.ref p_bytes, .ref p_ts, .ref p_tc, .int n_ta, .int n_to, .int n_tl]))] H) hP hS ?_
  clear hP hS; intro H locs hP hS
  change va_P (dC, dI) vwCl [(h0, .inr (9, [.ref p_bytes, .ref p_ts, .ref p_tc, .int n_ta, .int n_to, .int n_tl]))] H at hP
  refine lv_aload_n hx hb dX9_clear_0 rfl (lv_at hl 0 rfl) ?_
  refine lv_iconst (v := 0) hx hb dX9_clear_1 (by decide) ?_
  refine va_put (D := (dC, dI)) (ci := 9) (v := .int 0) (C := RX9) (T := TX9) (N := 6) hx hb htb iX9 tyX9 tyX9_ok nmX9 hown hK hP hD hS 0 rfl rfl 3 (Nat.le_of_ble_eq_true rfl) (htb _ m_239) (fun _ h9 => h9) rfl (tyX9_ok 3 (Nat.le_of_ble_eq_true rfl)) rfl rfl (Nat.le_of_ble_eq_true rfl) dX9_clear_2 ?_
  clear hP hD hS; intro H locs hP hD hS
  change va_P (dC, dI) vwCl [(h0, .inr (9, [.ref p_bytes, .ref p_ts, .ref p_tc, .int 0, .int n_to, .int n_tl]))] H at hP
  change va_D A [(h0, .inr (9, [.ref p_bytes, .ref p_ts, .ref p_tc, .int 0, .int n_to, .int n_tl]))] at hD
  refine W.widen (k := 0) (n := 0) (Nat.le_of_ble_eq_true rfl) (Nat.le_of_ble_eq_true rfl) ?_
  have hP9 := hP.sub (ws' := [(h0, .inr (9, [.ref p_bytes, .ref p_ts, .ref p_tc, .int 0, .int n_to, .int n_tl]))]) [0] rfl
  have hD9 := hD.sub (ws' := [(h0, .inr (9, [.ref p_bytes, .ref p_ts, .ref p_tc, .int 0, .int n_to, .int n_tl]))]) [0] (by decide) rfl
  have hK9 := hK.sub (tys' := []) [] rfl
  exact W.vret hx hb hr (fun t ht hW => ⟨⟨(), rfl, trivial, ⟨by rw [ht]; exact hP9, va_K.moved hW.alike hK9, hD9⟩⟩, hS.F ht⟩) hS.2.2 dX9_clear_5

theorem lg_X9_hasToken_0 (n_to : Int32) (v1 : Int32) (t_2 : v1.toInt < (0 : Int)) : ¬ (0 ≤ v1.toInt ∧ v1.toInt < n_to.toInt) := by
  have := rg_rng n_to; have := rg_rng v1; omega
theorem lg_X9_hasToken_1 (n_to : Int32) (v1 : Int32) (t_2 : (0 : Int) ≤ v1.toInt) (t_4 : n_to.toInt ≤ v1.toInt) : ¬ (0 ≤ v1.toInt ∧ v1.toInt < n_to.toInt) := by
  have := rg_rng n_to; have := rg_rng v1; omega
theorem lg_X9_hasToken_2 (n_to : Int32) (v1 : Int32) (t_2 : (0 : Int) ≤ v1.toInt) (t_4 : v1.toInt < n_to.toInt) : 0 ≤ v1.toInt ∧ v1.toInt < n_to.toInt := by
  have := rg_rng n_to; have := rg_rng v1; omega
set_option maxHeartbeats 4000000 in
set_option maxRecDepth 100000 in
theorem kX9_hasToken (l : Launch) (dC : Nat → ClassId) (dI : Nat → Nat → Nat) (sz : Nat) (h0 : Nat) (p_bytes : Nat) (p_ts : Nat) (p_tc : Nat) (n_ta : Int32) (n_to : Int32) (n_tl : Int32) (v1 : Int32) : Met l yX9_hasToken (Cond.code yX9_hasToken cX9_hasToken 2 (some .boolean) :: bg) ({ frames := 0, cells := 0, slots := 0, locals := 0 }) (pcW dC dI [.ref h0, .int v1] sz [(h0, .inr (9, [.ref p_bytes, .ref p_ts, .ref p_tc, .int n_ta, .int n_to, .int n_tl]))] []) (va_Qi (fun (r : Int32) (u : Unit) => (r = 1 ∧ 0 ≤ v1.toInt ∧ v1.toInt < n_to.toInt) ∨ (r = 0 ∧ ¬ (0 ≤ v1.toInt ∧ v1.toInt < n_to.toInt))) (fun (u : Unit) (t : State) => va_P (dC, dI) vwCl [(h0, .inr (9, [.ref p_bytes, .ref p_ts, .ref p_tc, .int n_ta, .int n_to, .int n_tl]))] t.heap ∧ va_K (dC, dI) vwCl [] t ∧ va_D (va_A [(h0, .inr (9, [.ref p_bytes, .ref p_ts, .ref p_tc, .int n_ta, .int n_to, .int n_tl]))] sz) [(h0, .inr (9, [.ref p_bytes, .ref p_ts, .ref p_tc, .int n_ta, .int n_to, .int n_tl]))]) (va_A [(h0, .inr (9, [.ref p_bytes, .ref p_ts, .ref p_tc, .int n_ta, .int n_to, .int n_tl]))] sz)) 0 0 (va_A [(h0, .inr (9, [.ref p_bytes, .ref p_ts, .ref p_tc, .int n_ta, .int n_to, .int n_tl]))] sz) := by
  refine Met.ofW (cc := cX9_hasToken) (maxL := 2) (ret := (some .boolean)) pnX9 rfl ?_
  intro p e s m args below meth c s₁ B hml hv
  obtain ⟨rfl, hsz, hP, hK, hD0, hN⟩ := hv
  have hx := B.exec
  have hb := B.bytes
  have hr := B.returns
  have htb : ∀ w ∈ bg, w.before [.ref h0, .int v1].toArray s = true := fun w h => atoms_spec (ws := Cond.code yX9_hasToken cX9_hasToken 2 (some .boolean) :: bg) B.pre w (List.mem_cons_of_mem _ h)
  have hown : s.vm.findClass RX9 = some m.cls := findClass_of_methodNamed B.named
  have hlocks := B.notSynchronized
  subst hsz
  have hD := hD0.self (sz := s.heap.size)
  generalize hAe : va_A [(h0, .inr (9, [.ref p_bytes, .ref p_ts, .ref p_tc, .int n_ta, .int n_to, .int n_tl]))] s.heap.size = A at hD ⊢
  have hA : ∀ q : Nat, s.heap.size ≤ q → A q := fun q h => by rw [← hAe]; exact Or.inr h
  have hS : va_S A s.heap s.heap [] := va_S.rf
  have hl := lv_entry ([.ref h0, .int v1]) (n := 2) (Nat.le_of_ble_eq_true rfl)
  rw [lg_entry_eq]
  generalize (lg_sl ([.ref h0, .int v1]) ++ List.replicate (2 - (lg_sl ([.ref h0, .int v1])).length) Slot.unset).toArray = ls at hl ⊢
  change lv_has ls 2 [(0, .ref h0), (1, .int v1)] at hl
  clear hD0 hAe
  refine go0 (wsP := fun H => va_P (dC, dI) vwCl [(h0, .inr (9, [.ref p_bytes, .ref p_ts, .ref p_tc, .int n_ta, .int n_to, .int n_tl]))] H) hP hS ?_
  clear hP hS; intro H locs hP hS
  change va_P (dC, dI) vwCl [(h0, .inr (9, [.ref p_bytes, .ref p_ts, .ref p_tc, .int n_ta, .int n_to, .int n_tl]))] H at hP
  refine lv_iload_n hx hb dX9_hasToken_0 rfl (lv_at hl 1 rfl) ?_
  refine lv_if_lt (tgt := 16) hx hb dX9_hasToken_1 (by decide) (fun c_1 => ?_) (fun c_1 => ?_)
  · have t_2 : v1.toInt < (0 : Int) := i_lt rfl (by decide) c_1
    refine lv_iconst (v := 0) hx hb dX9_hasToken_16 (by decide) ?_
    refine W.widen (k := 0) (n := 0) (Nat.le_of_ble_eq_true rfl) (Nat.le_of_ble_eq_true rfl) ?_
    have hP9 := hP.sub (ws' := [(h0, .inr (9, [.ref p_bytes, .ref p_ts, .ref p_tc, .int n_ta, .int n_to, .int n_tl]))]) [0] rfl
    have hD9 := hD.sub (ws' := [(h0, .inr (9, [.ref p_bytes, .ref p_ts, .ref p_tc, .int n_ta, .int n_to, .int n_tl]))]) [0] (by decide) rfl
    have hK9 := hK.sub (tys' := []) [] rfl
    exact W.zret (ty := .boolean) (v := 0) hx hb hr rfl (fun t ht hW => ⟨⟨0, (), rfl, (Or.inr (⟨rfl, (lg_X9_hasToken_0 n_to v1 t_2)⟩)), ⟨by rw [ht]; exact hP9, va_K.moved hW.alike hK9, hD9⟩⟩, hS.F ht⟩) hS.2.2 dX9_hasToken_17
  · have t_2 : (0 : Int) ≤ v1.toInt := i_nlt rfl (by decide) c_1
    refine lv_iload_n hx hb dX9_hasToken_4 rfl (lv_at hl 1 rfl) ?_
    refine lv_aload_n hx hb dX9_hasToken_5 rfl (lv_at hl 0 rfl) ?_
    refine va_get (D := (dC, dI)) (ci := 9) (v := .int n_to) (C := RX9) (T := TX9) (N := 6) hx hb htb iX9 hown hK hP 0 rfl rfl 4 (Nat.le_of_ble_eq_true rfl) (htb _ m_241) (fun _ h9 => h9) rfl dX9_hasToken_6 ?_
    refine lv_icmp_ge (tgt := 16) hx hb dX9_hasToken_9 (by decide) (fun c_3 => ?_) (fun c_3 => ?_)
    · have t_4 : n_to.toInt ≤ v1.toInt := i_le rfl rfl c_3
      refine lv_iconst (v := 0) hx hb dX9_hasToken_16 (by decide) ?_
      refine W.widen (k := 0) (n := 0) (Nat.le_of_ble_eq_true rfl) (Nat.le_of_ble_eq_true rfl) ?_
      have hP9 := hP.sub (ws' := [(h0, .inr (9, [.ref p_bytes, .ref p_ts, .ref p_tc, .int n_ta, .int n_to, .int n_tl]))]) [0] rfl
      have hD9 := hD.sub (ws' := [(h0, .inr (9, [.ref p_bytes, .ref p_ts, .ref p_tc, .int n_ta, .int n_to, .int n_tl]))]) [0] (by decide) rfl
      have hK9 := hK.sub (tys' := []) [] rfl
      exact W.zret (ty := .boolean) (v := 0) hx hb hr rfl (fun t ht hW => ⟨⟨0, (), rfl, (Or.inr (⟨rfl, (lg_X9_hasToken_1 n_to v1 t_2 t_4)⟩)), ⟨by rw [ht]; exact hP9, va_K.moved hW.alike hK9, hD9⟩⟩, hS.F ht⟩) hS.2.2 dX9_hasToken_17
    · have t_4 : v1.toInt < n_to.toInt := i_nle rfl rfl c_3
      refine lv_iconst (v := 1) hx hb dX9_hasToken_12 (by decide) ?_
      refine lv_goto (tgt := 17) hx hb dX9_hasToken_13 (by decide) ?_
      refine W.widen (k := 0) (n := 0) (Nat.le_of_ble_eq_true rfl) (Nat.le_of_ble_eq_true rfl) ?_
      have hP9 := hP.sub (ws' := [(h0, .inr (9, [.ref p_bytes, .ref p_ts, .ref p_tc, .int n_ta, .int n_to, .int n_tl]))]) [0] rfl
      have hD9 := hD.sub (ws' := [(h0, .inr (9, [.ref p_bytes, .ref p_ts, .ref p_tc, .int n_ta, .int n_to, .int n_tl]))]) [0] (by decide) rfl
      have hK9 := hK.sub (tys' := []) [] rfl
      exact W.zret (ty := .boolean) (v := 1) hx hb hr rfl (fun t ht hW => ⟨⟨1, (), rfl, (Or.inl ⟨rfl, (lg_X9_hasToken_2 n_to v1 t_2 t_4)⟩), ⟨by rw [ht]; exact hP9, va_K.moved hW.alike hK9, hD9⟩⟩, hS.F ht⟩) hS.2.2 dX9_hasToken_17

theorem lg_X5_allHold_0 (v1 : Int32) (yv : 0 ≤ v1.toInt ∧ v1.toInt < 16) : (3 - (0 : Int)) < ((Int.toNat (3 - (0 : Int)) + 1 : Nat) : Int) := by
  have := rg_rng v1; omega
theorem lg_X5_allHold_1 (v1 : Int32) (yv : 0 ≤ v1.toInt ∧ v1.toInt < 16) : 0 ≤ (0 : Int) ∧ (0 : Int) ≤ 3 := by
  have := rg_rng v1; omega
theorem lg_X5_allHold_2 (v1 : Int32) (i_1 : Int32) (yv : 0 ≤ v1.toInt ∧ v1.toInt < 16) (hi1_0 : 0 ≤ i_1.toInt ∧ i_1.toInt ≤ 3) (hmu1 : (3 - i_1.toInt) < ((0 : Nat) : Int)) : False := by
  have := rg_rng v1; have := rg_rng i_1; omega
theorem lg_X5_allHold_3 (v1 : Int32) (i_1 : Int32) (n1 : Nat) (yv : 0 ≤ v1.toInt ∧ v1.toInt < 16) (hi1_0 : 0 ≤ i_1.toInt ∧ i_1.toInt ≤ 3) (hmu1 : (3 - i_1.toInt) < ((n1 + 1 : Nat) : Int)) : 0 ≤ v1.toInt ∧ v1.toInt < ((16 : Nat) : Int) := by
  have := rg_rng v1; have := rg_rng i_1; omega
theorem lg_X5_allHold_4 (v1 : Int32) (i_1 : Int32) (n1 : Nat) (x_2 : Int32) (yv : 0 ≤ v1.toInt ∧ v1.toInt < 16) (hi1_0 : 0 ≤ i_1.toInt ∧ i_1.toInt ≤ 3) (hmu1 : (3 - i_1.toInt) < ((n1 + 1 : Nat) : Int)) (t_4 : 0 ≤ x_2.toInt ∧ x_2.toInt ≤ 3) (t_6 : x_2.toInt ≤ i_1.toInt) : True := by
  have := rg_rng v1; have := rg_rng i_1; have := rg_rng x_2; trivial
theorem lg_X5_allHold_5 (v1 : Int32) (i_1 : Int32) (n1 : Nat) (x_2 : Int32) (yv : 0 ≤ v1.toInt ∧ v1.toInt < 16) (hi1_0 : 0 ≤ i_1.toInt ∧ i_1.toInt ≤ 3) (hmu1 : (3 - i_1.toInt) < ((n1 + 1 : Nat) : Int)) (t_4 : 0 ≤ x_2.toInt ∧ x_2.toInt ≤ 3) (t_6 : i_1.toInt < x_2.toInt) : -2147483648 ≤ v1.toInt * (3 : Int) ∧ v1.toInt * (3 : Int) < 2147483648 := by
  have := rg_rng v1; have := rg_rng i_1; have := rg_rng x_2; omega
theorem lg_X5_allHold_6 (v1 : Int32) (i_1 : Int32) (n1 : Nat) (x_2 : Int32) (x_7 : Int32) (yv : 0 ≤ v1.toInt ∧ v1.toInt < 16) (hi1_0 : 0 ≤ i_1.toInt ∧ i_1.toInt ≤ 3) (hmu1 : (3 - i_1.toInt) < ((n1 + 1 : Nat) : Int)) (t_4 : 0 ≤ x_2.toInt ∧ x_2.toInt ≤ 3) (t_6 : i_1.toInt < x_2.toInt) (t_9 : x_7.toInt = v1.toInt * (3 : Int)) : -2147483648 ≤ x_7.toInt + i_1.toInt ∧ x_7.toInt + i_1.toInt < 2147483648 := by
  have := rg_rng v1; have := rg_rng i_1; have := rg_rng x_2; have := rg_rng x_7; omega
theorem lg_X5_allHold_7 (v1 : Int32) (i_1 : Int32) (n1 : Nat) (x_2 : Int32) (x_7 : Int32) (x_10 : Int32) (yv : 0 ≤ v1.toInt ∧ v1.toInt < 16) (hi1_0 : 0 ≤ i_1.toInt ∧ i_1.toInt ≤ 3) (hmu1 : (3 - i_1.toInt) < ((n1 + 1 : Nat) : Int)) (t_4 : 0 ≤ x_2.toInt ∧ x_2.toInt ≤ 3) (t_6 : i_1.toInt < x_2.toInt) (t_9 : x_7.toInt = v1.toInt * (3 : Int)) (t_12 : x_10.toInt = x_7.toInt + i_1.toInt) : 0 ≤ x_10.toInt ∧ x_10.toInt < ((48 : Nat) : Int) := by
  have := rg_rng v1; have := rg_rng i_1; have := rg_rng x_2; have := rg_rng x_7; have := rg_rng x_10; omega
theorem lg_X5_allHold_8 (v1 : Int32) (i_1 : Int32) (n1 : Nat) (x_2 : Int32) (x_7 : Int32) (x_10 : Int32) (x_13 : Int32) (yv : 0 ≤ v1.toInt ∧ v1.toInt < 16) (hi1_0 : 0 ≤ i_1.toInt ∧ i_1.toInt ≤ 3) (hmu1 : (3 - i_1.toInt) < ((n1 + 1 : Nat) : Int)) (t_4 : 0 ≤ x_2.toInt ∧ x_2.toInt ≤ 3) (t_6 : i_1.toInt < x_2.toInt) (t_9 : x_7.toInt = v1.toInt * (3 : Int)) (t_12 : x_10.toInt = x_7.toInt + i_1.toInt) (t_16 : x_13.toInt < (0 : Int)) : True := by
  have := rg_rng v1; have := rg_rng i_1; have := rg_rng x_2; have := rg_rng x_7; have := rg_rng x_10; have := rg_rng x_13; trivial
theorem lg_X5_allHold_9 (v1 : Int32) (i_1 : Int32) (n1 : Nat) (x_2 : Int32) (x_7 : Int32) (x_10 : Int32) (x_13 : Int32) (yv : 0 ≤ v1.toInt ∧ v1.toInt < 16) (hi1_0 : 0 ≤ i_1.toInt ∧ i_1.toInt ≤ 3) (hmu1 : (3 - i_1.toInt) < ((n1 + 1 : Nat) : Int)) (t_4 : 0 ≤ x_2.toInt ∧ x_2.toInt ≤ 3) (t_6 : i_1.toInt < x_2.toInt) (t_9 : x_7.toInt = v1.toInt * (3 : Int)) (t_12 : x_10.toInt = x_7.toInt + i_1.toInt) (t_16 : (0 : Int) ≤ x_13.toInt) (t_18 : (6 : Int) ≤ x_13.toInt) : True := by
  have := rg_rng v1; have := rg_rng i_1; have := rg_rng x_2; have := rg_rng x_7; have := rg_rng x_10; have := rg_rng x_13; trivial
theorem lg_X5_allHold_10 (v1 : Int32) (i_1 : Int32) (n1 : Nat) (x_2 : Int32) (x_7 : Int32) (x_10 : Int32) (x_13 : Int32) (yv : 0 ≤ v1.toInt ∧ v1.toInt < 16) (hi1_0 : 0 ≤ i_1.toInt ∧ i_1.toInt ≤ 3) (hmu1 : (3 - i_1.toInt) < ((n1 + 1 : Nat) : Int)) (t_4 : 0 ≤ x_2.toInt ∧ x_2.toInt ≤ 3) (t_6 : i_1.toInt < x_2.toInt) (t_9 : x_7.toInt = v1.toInt * (3 : Int)) (t_12 : x_10.toInt = x_7.toInt + i_1.toInt) (t_16 : (0 : Int) ≤ x_13.toInt) (t_18 : x_13.toInt < (6 : Int)) : 0 ≤ x_13.toInt ∧ x_13.toInt < ((6 : Nat) : Int) := by
  have := rg_rng v1; have := rg_rng i_1; have := rg_rng x_2; have := rg_rng x_7; have := rg_rng x_10; have := rg_rng x_13; omega
theorem lg_X5_allHold_11 (v1 : Int32) (i_1 : Int32) (n1 : Nat) (x_2 : Int32) (x_7 : Int32) (x_10 : Int32) (x_13 : Int32) (yv : 0 ≤ v1.toInt ∧ v1.toInt < 16) (hi1_0 : 0 ≤ i_1.toInt ∧ i_1.toInt ≤ 3) (hmu1 : (3 - i_1.toInt) < ((n1 + 1 : Nat) : Int)) (t_4 : 0 ≤ x_2.toInt ∧ x_2.toInt ≤ 3) (t_6 : i_1.toInt < x_2.toInt) (t_9 : x_7.toInt = v1.toInt * (3 : Int)) (t_12 : x_10.toInt = x_7.toInt + i_1.toInt) (t_16 : (0 : Int) ≤ x_13.toInt) (t_18 : x_13.toInt < (6 : Int)) : 0 ≤ x_10.toInt ∧ x_10.toInt < ((48 : Nat) : Int) := by
  have := rg_rng v1; have := rg_rng i_1; have := rg_rng x_2; have := rg_rng x_7; have := rg_rng x_10; have := rg_rng x_13; omega
theorem lg_X5_allHold_12 (v1 : Int32) (i_1 : Int32) (n1 : Nat) (x_2 : Int32) (x_7 : Int32) (x_10 : Int32) (x_13 : Int32) (yv : 0 ≤ v1.toInt ∧ v1.toInt < 16) (hi1_0 : 0 ≤ i_1.toInt ∧ i_1.toInt ≤ 3) (hmu1 : (3 - i_1.toInt) < ((n1 + 1 : Nat) : Int)) (t_4 : 0 ≤ x_2.toInt ∧ x_2.toInt ≤ 3) (t_6 : i_1.toInt < x_2.toInt) (t_9 : x_7.toInt = v1.toInt * (3 : Int)) (t_12 : x_10.toInt = x_7.toInt + i_1.toInt) (t_16 : (0 : Int) ≤ x_13.toInt) (t_18 : x_13.toInt < (6 : Int)) (h_26 : True) : -2147483648 ≤ i_1.toInt + 1 ∧ i_1.toInt + 1 < 2147483648 := by
  have := rg_rng v1; have := rg_rng i_1; have := rg_rng x_2; have := rg_rng x_7; have := rg_rng x_10; have := rg_rng x_13; omega
theorem lg_X5_allHold_13 (v1 : Int32) (i_1 : Int32) (n1 : Nat) (x_2 : Int32) (x_7 : Int32) (x_10 : Int32) (x_13 : Int32) (x_28 : Int32) (yv : 0 ≤ v1.toInt ∧ v1.toInt < 16) (hi1_0 : 0 ≤ i_1.toInt ∧ i_1.toInt ≤ 3) (hmu1 : (3 - i_1.toInt) < ((n1 + 1 : Nat) : Int)) (t_4 : 0 ≤ x_2.toInt ∧ x_2.toInt ≤ 3) (t_6 : i_1.toInt < x_2.toInt) (t_9 : x_7.toInt = v1.toInt * (3 : Int)) (t_12 : x_10.toInt = x_7.toInt + i_1.toInt) (t_16 : (0 : Int) ≤ x_13.toInt) (t_18 : x_13.toInt < (6 : Int)) (h_26 : True) (t_30 : x_28.toInt = i_1.toInt + 1) : (3 - x_28.toInt) < (n1 : Int) := by
  have := rg_rng v1; have := rg_rng i_1; have := rg_rng x_2; have := rg_rng x_7; have := rg_rng x_10; have := rg_rng x_13; have := rg_rng x_28; omega
theorem lg_X5_allHold_14 (v1 : Int32) (i_1 : Int32) (n1 : Nat) (x_2 : Int32) (x_7 : Int32) (x_10 : Int32) (x_13 : Int32) (x_28 : Int32) (yv : 0 ≤ v1.toInt ∧ v1.toInt < 16) (hi1_0 : 0 ≤ i_1.toInt ∧ i_1.toInt ≤ 3) (hmu1 : (3 - i_1.toInt) < ((n1 + 1 : Nat) : Int)) (t_4 : 0 ≤ x_2.toInt ∧ x_2.toInt ≤ 3) (t_6 : i_1.toInt < x_2.toInt) (t_9 : x_7.toInt = v1.toInt * (3 : Int)) (t_12 : x_10.toInt = x_7.toInt + i_1.toInt) (t_16 : (0 : Int) ≤ x_13.toInt) (t_18 : x_13.toInt < (6 : Int)) (h_26 : True) (t_30 : x_28.toInt = i_1.toInt + 1) : 0 ≤ x_28.toInt ∧ x_28.toInt ≤ 3 := by
  have := rg_rng v1; have := rg_rng i_1; have := rg_rng x_2; have := rg_rng x_7; have := rg_rng x_10; have := rg_rng x_13; have := rg_rng x_28; omega
theorem lg_X5_allHold_15 (v1 : Int32) (i_1 : Int32) (n1 : Nat) (x_2 : Int32) (x_7 : Int32) (x_10 : Int32) (x_13 : Int32) (yv : 0 ≤ v1.toInt ∧ v1.toInt < 16) (hi1_0 : 0 ≤ i_1.toInt ∧ i_1.toInt ≤ 3) (hmu1 : (3 - i_1.toInt) < ((n1 + 1 : Nat) : Int)) (t_4 : 0 ≤ x_2.toInt ∧ x_2.toInt ≤ 3) (t_6 : i_1.toInt < x_2.toInt) (t_9 : x_7.toInt = v1.toInt * (3 : Int)) (t_12 : x_10.toInt = x_7.toInt + i_1.toInt) (t_16 : (0 : Int) ≤ x_13.toInt) (t_18 : x_13.toInt < (6 : Int)) (h_26 : True) : True := by
  have := rg_rng v1; have := rg_rng i_1; have := rg_rng x_2; have := rg_rng x_7; have := rg_rng x_10; have := rg_rng x_13; trivial
set_option maxHeartbeats 4000000 in
set_option maxRecDepth 100000 in
theorem kX5_allHold (l : Launch) (dC : Nat → ClassId) (dI : Nat → Nat → Nat) (sz : Nat) (h0 : Nat) (b_deed : Nat) (b_value : Nat) (b_tests : Nat) (b_thing : Nat) (b_sign : Nat) (b_number : Nat) (n_bk : Int32) (k_tests : ClassId) (k_thing : ClassId) (k_sign : ClassId) (k_number : ClassId) (f_tests : Nat → Int32) (f_thing : Nat → Int32) (f_sign : Nat → Int32) (f_number : Nat → Int32) (a_fa : Nat) (k_fa : ClassId) (f_fa : Nat → Int32) (v1 : Int32) (yt : Rg f_tests 16 0 3) (yv : 0 ≤ v1.toInt ∧ v1.toInt < 16) : Met l yX5_allHold (Cond.code yX5_allHold cX5_allHold 6 (some .boolean) :: bg) ({ frames := 1, cells := 0, slots := 0, locals := 22 }) (pcW dC dI [.ref h0, .int v1, .ref a_fa] sz [(h0, .inr (5, [.ref b_deed, .ref b_value, .ref b_tests, .ref b_thing, .ref b_sign, .ref b_number, .int n_bk])), (b_tests, .inl (k_tests, 16, .inl f_tests)), (b_thing, .inl (k_thing, 48, .inl f_thing)), (b_sign, .inl (k_sign, 48, .inl f_sign)), (b_number, .inl (k_number, 48, .inl f_number)), (a_fa, .inl (k_fa, 6, .inl f_fa))] [(k_tests, .int), (k_thing, .int), (k_sign, .int), (k_number, .int), (k_fa, .int)]) (va_Qi (fun (r : Int32) (u : Unit) => (r = 1 ∧ True) ∨ (r = 0 ∧ True)) (fun (u : Unit) (t : State) => va_P (dC, dI) vwCl [(h0, .inr (5, [.ref b_deed, .ref b_value, .ref b_tests, .ref b_thing, .ref b_sign, .ref b_number, .int n_bk])), (b_tests, .inl (k_tests, 16, .inl f_tests)), (b_thing, .inl (k_thing, 48, .inl f_thing)), (b_sign, .inl (k_sign, 48, .inl f_sign)), (b_number, .inl (k_number, 48, .inl f_number)), (a_fa, .inl (k_fa, 6, .inl f_fa))] t.heap ∧ va_K (dC, dI) vwCl [(k_tests, .int), (k_thing, .int), (k_sign, .int), (k_number, .int), (k_fa, .int)] t ∧ va_D (va_A [(h0, .inr (5, [.ref b_deed, .ref b_value, .ref b_tests, .ref b_thing, .ref b_sign, .ref b_number, .int n_bk])), (b_tests, .inl (k_tests, 16, .inl f_tests)), (b_thing, .inl (k_thing, 48, .inl f_thing)), (b_sign, .inl (k_sign, 48, .inl f_sign)), (b_number, .inl (k_number, 48, .inl f_number)), (a_fa, .inl (k_fa, 6, .inl f_fa))] sz) [(h0, .inr (5, [.ref b_deed, .ref b_value, .ref b_tests, .ref b_thing, .ref b_sign, .ref b_number, .int n_bk])), (b_tests, .inl (k_tests, 16, .inl f_tests)), (b_thing, .inl (k_thing, 48, .inl f_thing)), (b_sign, .inl (k_sign, 48, .inl f_sign)), (b_number, .inl (k_number, 48, .inl f_number)), (a_fa, .inl (k_fa, 6, .inl f_fa))]) (va_A [(h0, .inr (5, [.ref b_deed, .ref b_value, .ref b_tests, .ref b_thing, .ref b_sign, .ref b_number, .int n_bk])), (b_tests, .inl (k_tests, 16, .inl f_tests)), (b_thing, .inl (k_thing, 48, .inl f_thing)), (b_sign, .inl (k_sign, 48, .inl f_sign)), (b_number, .inl (k_number, 48, .inl f_number)), (a_fa, .inl (k_fa, 6, .inl f_fa))] sz)) 0 0 (va_A [(h0, .inr (5, [.ref b_deed, .ref b_value, .ref b_tests, .ref b_thing, .ref b_sign, .ref b_number, .int n_bk])), (b_tests, .inl (k_tests, 16, .inl f_tests)), (b_thing, .inl (k_thing, 48, .inl f_thing)), (b_sign, .inl (k_sign, 48, .inl f_sign)), (b_number, .inl (k_number, 48, .inl f_number)), (a_fa, .inl (k_fa, 6, .inl f_fa))] sz) := by
  refine Met.ofW (cc := cX5_allHold) (maxL := 6) (ret := (some .boolean)) pnX5 rfl ?_
  intro p e s m args below meth c s₁ B hml hv
  obtain ⟨rfl, hsz, hP, hK, hD0, hN⟩ := hv
  have hx := B.exec
  have hb := B.bytes
  have hr := B.returns
  have htb : ∀ w ∈ bg, w.before [.ref h0, .int v1, .ref a_fa].toArray s = true := fun w h => atoms_spec (ws := Cond.code yX5_allHold cX5_allHold 6 (some .boolean) :: bg) B.pre w (List.mem_cons_of_mem _ h)
  have hown : s.vm.findClass RX5 = some m.cls := findClass_of_methodNamed B.named
  have hlocks := B.notSynchronized
  subst hsz
  have hD := hD0.self (sz := s.heap.size)
  generalize hAe : va_A [(h0, .inr (5, [.ref b_deed, .ref b_value, .ref b_tests, .ref b_thing, .ref b_sign, .ref b_number, .int n_bk])), (b_tests, .inl (k_tests, 16, .inl f_tests)), (b_thing, .inl (k_thing, 48, .inl f_thing)), (b_sign, .inl (k_sign, 48, .inl f_sign)), (b_number, .inl (k_number, 48, .inl f_number)), (a_fa, .inl (k_fa, 6, .inl f_fa))] s.heap.size = A at hD ⊢
  have hA : ∀ q : Nat, s.heap.size ≤ q → A q := fun q h => by rw [← hAe]; exact Or.inr h
  have hS : va_S A s.heap s.heap [] := va_S.rf
  have hl := lv_entry ([.ref h0, .int v1, .ref a_fa]) (n := 6) (Nat.le_of_ble_eq_true rfl)
  rw [lg_entry_eq]
  generalize (lg_sl ([.ref h0, .int v1, .ref a_fa]) ++ List.replicate (6 - (lg_sl ([.ref h0, .int v1, .ref a_fa])).length) Slot.unset).toArray = ls at hl ⊢
  change lv_has ls 6 [(0, .ref h0), (1, .int v1), (2, .ref a_fa)] at hl
  clear hD0 hAe
  refine go0 (wsP := fun H => va_P (dC, dI) vwCl [(h0, .inr (5, [.ref b_deed, .ref b_value, .ref b_tests, .ref b_thing, .ref b_sign, .ref b_number, .int n_bk])), (b_tests, .inl (k_tests, 16, .inl f_tests)), (b_thing, .inl (k_thing, 48, .inl f_thing)), (b_sign, .inl (k_sign, 48, .inl f_sign)), (b_number, .inl (k_number, 48, .inl f_number)), (a_fa, .inl (k_fa, 6, .inl f_fa))] H) hP hS ?_
  clear hP hS; intro H locs hP hS
  change va_P (dC, dI) vwCl [(h0, .inr (5, [.ref b_deed, .ref b_value, .ref b_tests, .ref b_thing, .ref b_sign, .ref b_number, .int n_bk])), (b_tests, .inl (k_tests, 16, .inl f_tests)), (b_thing, .inl (k_thing, 48, .inl f_thing)), (b_sign, .inl (k_sign, 48, .inl f_sign)), (b_number, .inl (k_number, 48, .inl f_number)), (a_fa, .inl (k_fa, 6, .inl f_fa))] H at hP
  refine lv_iconst (v := 0) hx hb dX5_allHold_0 (by decide) ?_
  refine lv_istore_n (lv' := [(3, .int 0), (0, .ref h0), (1, .int v1), (2, .ref a_fa)]) hx hb dX5_allHold_1 rfl hl (by decide) rfl ?_
  clear hl; intro ls hl
  refine (fun (lp : ∀ (n1 : Nat) (i_1 : Int32) (H : Heap) (locs : List Loc) (ls : Array Slot), (3 - i_1.toInt) < (n1 : Int) → (0 ≤ i_1.toInt ∧ i_1.toInt ≤ 3) → lv_has ls 6 [(3, .int i_1), (0, .ref h0), (1, .int v1), (2, .ref a_fa)] → va_P (dC, dI) vwCl [(h0, .inr (5, [.ref b_deed, .ref b_value, .ref b_tests, .ref b_thing, .ref b_sign, .ref b_number, .int n_bk])), (b_tests, .inl (k_tests, 16, .inl f_tests)), (b_thing, .inl (k_thing, 48, .inl f_thing)), (b_sign, .inl (k_sign, 48, .inl f_sign)), (b_number, .inl (k_number, 48, .inl f_number)), (a_fa, .inl (k_fa, 6, .inl f_fa))] H → va_D A [(h0, .inr (5, [.ref b_deed, .ref b_value, .ref b_tests, .ref b_thing, .ref b_sign, .ref b_number, .int n_bk])), (b_tests, .inl (k_tests, 16, .inl f_tests)), (b_thing, .inl (k_thing, 48, .inl f_thing)), (b_sign, .inl (k_sign, 48, .inl f_sign)), (b_number, .inl (k_number, 48, .inl f_number)), (a_fa, .inl (k_fa, 6, .inl f_fa))] → va_S A s.heap H locs → W p l e _ s m _ below meth c H locs _ _ _ (F0 m 2 ls [])) => lp (Int.toNat (3 - (0 : Int)) + 1) 0   H locs ls ((lg_X5_allHold_0 v1 yv)) (lg_X5_allHold_1 v1 yv)   hl hP hD hS) ?_
  clear hP hD hS hl
  intro n1
  induction n1 with
  | zero =>
    intro i_1 H locs ls hmu1 hi1_0   hl hP hD hS
    exact False.elim (lg_X5_allHold_2 v1 i_1 yv hi1_0 hmu1)
  | succ n1 ih1 =>
    intro i_1 H locs ls hmu1 hi1_0   hl hP hD hS
    refine lv_iload_n hx hb dX5_allHold_2 rfl (lv_at hl 0 rfl) ?_
    refine lv_aload_n hx hb dX5_allHold_3 rfl (lv_at hl 1 rfl) ?_
    refine va_get (D := (dC, dI)) (ci := 5) (v := .ref b_tests) (C := RX5) (T := TX5) (N := 7) hx hb htb iX5 hown hK hP 0 rfl rfl 2 (Nat.le_of_ble_eq_true rfl) (htb _ m_281) (fun _ h9 => h9) rfl dX5_allHold_4 ?_
    refine lv_iload_n hx hb dX5_allHold_7 rfl (lv_at hl 2 rfl) ?_
    refine va_iald hx hb hK hP 1 0 rfl rfl (i_in rfl (lg_X5_allHold_3 v1 i_1 n1 yv hi1_0 hmu1)) dX5_allHold_8 ?_
    refine lv_topi (fun x_2 ex_3 => ?_)
    have t_4 : 0 ≤ x_2.toInt ∧ x_2.toInt ≤ 3 := Rg_ld yt (i_in rfl (lg_X5_allHold_3 v1 i_1 n1 yv hi1_0 hmu1)) ex_3
    refine lv_icmp_ge (tgt := 72) hx hb dX5_allHold_9 (by decide) (fun c_5 => ?_) (fun c_5 => ?_)
    · have t_6 : x_2.toInt ≤ i_1.toInt := i_le rfl rfl c_5
      refine lv_iconst (v := 1) hx hb dX5_allHold_72 (by decide) ?_
      refine W.widen (k := 0) (n := 0) (Nat.le_of_ble_eq_true rfl) (Nat.le_of_ble_eq_true rfl) ?_
      have hP9 := hP.sub (ws' := [(h0, .inr (5, [.ref b_deed, .ref b_value, .ref b_tests, .ref b_thing, .ref b_sign, .ref b_number, .int n_bk])), (b_tests, .inl (k_tests, 16, .inl f_tests)), (b_thing, .inl (k_thing, 48, .inl f_thing)), (b_sign, .inl (k_sign, 48, .inl f_sign)), (b_number, .inl (k_number, 48, .inl f_number)), (a_fa, .inl (k_fa, 6, .inl f_fa))]) [0, 1, 2, 3, 4, 5] rfl
      have hD9 := hD.sub (ws' := [(h0, .inr (5, [.ref b_deed, .ref b_value, .ref b_tests, .ref b_thing, .ref b_sign, .ref b_number, .int n_bk])), (b_tests, .inl (k_tests, 16, .inl f_tests)), (b_thing, .inl (k_thing, 48, .inl f_thing)), (b_sign, .inl (k_sign, 48, .inl f_sign)), (b_number, .inl (k_number, 48, .inl f_number)), (a_fa, .inl (k_fa, 6, .inl f_fa))]) [0, 1, 2, 3, 4, 5] (by decide) rfl
      have hK9 := hK.sub (tys' := [(k_tests, .int), (k_thing, .int), (k_sign, .int), (k_number, .int), (k_fa, .int)]) [0, 1, 2, 3, 4] rfl
      exact W.zret (ty := .boolean) (v := 1) hx hb hr rfl (fun t ht hW => ⟨⟨1, (), rfl, (Or.inl ⟨rfl, (lg_X5_allHold_4 v1 i_1 n1 x_2 yv hi1_0 hmu1 t_4 t_6)⟩), ⟨by rw [ht]; exact hP9, va_K.moved hW.alike hK9, hD9⟩⟩, hS.F ht⟩) hS.2.2 dX5_allHold_73
    · have t_6 : i_1.toInt < x_2.toInt := i_nle rfl rfl c_5
      refine lv_iload_n hx hb dX5_allHold_12 rfl (lv_at hl 2 rfl) ?_
      refine lv_iconst (v := 3) hx hb dX5_allHold_13 (by decide) ?_
      refine lv_imul hx hb dX5_allHold_14 ?_
      refine lv_topi (fun x_7 ex_8 => ?_)
      have t_9 : x_7.toInt = v1.toInt * (3 : Int) := i_mul rfl (by decide) (lg_X5_allHold_5 v1 i_1 n1 x_2 yv hi1_0 hmu1 t_4 t_6) ex_8
      refine lv_iload_n hx hb dX5_allHold_15 rfl (lv_at hl 0 rfl) ?_
      refine lv_iadd hx hb dX5_allHold_16 ?_
      refine lv_topi (fun x_10 ex_11 => ?_)
      have t_12 : x_10.toInt = x_7.toInt + i_1.toInt := i_add rfl rfl (lg_X5_allHold_6 v1 i_1 n1 x_2 x_7 yv hi1_0 hmu1 t_4 t_6 t_9) ex_11
      refine lv_istore (lv' := [(4, .int x_10), (3, .int i_1), (0, .ref h0), (1, .int v1), (2, .ref a_fa)]) hx hb dX5_allHold_17 hl (by decide) rfl ?_
      clear hl; intro ls hl
      refine lv_aload_n hx hb dX5_allHold_19 rfl (lv_at hl 2 rfl) ?_
      refine va_get (D := (dC, dI)) (ci := 5) (v := .ref b_thing) (C := RX5) (T := TX5) (N := 7) hx hb htb iX5 hown hK hP 0 rfl rfl 3 (Nat.le_of_ble_eq_true rfl) (htb _ m_282) (fun _ h9 => h9) rfl dX5_allHold_20 ?_
      refine lv_iload hx hb dX5_allHold_23 (lv_at hl 0 rfl) ?_
      refine va_iald hx hb hK hP 2 1 rfl rfl (i_in rfl (lg_X5_allHold_7 v1 i_1 n1 x_2 x_7 x_10 yv hi1_0 hmu1 t_4 t_6 t_9 t_12)) dX5_allHold_25 ?_
      refine lv_topi (fun x_13 ex_14 => ?_)
      refine lv_istore (lv' := [(5, .int x_13), (4, .int x_10), (3, .int i_1), (0, .ref h0), (1, .int v1), (2, .ref a_fa)]) hx hb dX5_allHold_26 hl (by decide) rfl ?_
      clear hl; intro ls hl
      refine lv_iload hx hb dX5_allHold_28 (lv_at hl 0 rfl) ?_
      refine lv_if_lt (tgt := 64) hx hb dX5_allHold_30 (by decide) (fun c_15 => ?_) (fun c_15 => ?_)
      · have t_16 : x_13.toInt < (0 : Int) := i_lt rfl (by decide) c_15
        refine lv_iconst (v := 0) hx hb dX5_allHold_64 (by decide) ?_
        refine W.widen (k := 0) (n := 0) (Nat.le_of_ble_eq_true rfl) (Nat.le_of_ble_eq_true rfl) ?_
        have hP9 := hP.sub (ws' := [(h0, .inr (5, [.ref b_deed, .ref b_value, .ref b_tests, .ref b_thing, .ref b_sign, .ref b_number, .int n_bk])), (b_tests, .inl (k_tests, 16, .inl f_tests)), (b_thing, .inl (k_thing, 48, .inl f_thing)), (b_sign, .inl (k_sign, 48, .inl f_sign)), (b_number, .inl (k_number, 48, .inl f_number)), (a_fa, .inl (k_fa, 6, .inl f_fa))]) [0, 1, 2, 3, 4, 5] rfl
        have hD9 := hD.sub (ws' := [(h0, .inr (5, [.ref b_deed, .ref b_value, .ref b_tests, .ref b_thing, .ref b_sign, .ref b_number, .int n_bk])), (b_tests, .inl (k_tests, 16, .inl f_tests)), (b_thing, .inl (k_thing, 48, .inl f_thing)), (b_sign, .inl (k_sign, 48, .inl f_sign)), (b_number, .inl (k_number, 48, .inl f_number)), (a_fa, .inl (k_fa, 6, .inl f_fa))]) [0, 1, 2, 3, 4, 5] (by decide) rfl
        have hK9 := hK.sub (tys' := [(k_tests, .int), (k_thing, .int), (k_sign, .int), (k_number, .int), (k_fa, .int)]) [0, 1, 2, 3, 4] rfl
        exact W.zret (ty := .boolean) (v := 0) hx hb hr rfl (fun t ht hW => ⟨⟨0, (), rfl, (Or.inr (⟨rfl, (lg_X5_allHold_8 v1 i_1 n1 x_2 x_7 x_10 x_13 yv hi1_0 hmu1 t_4 t_6 t_9 t_12 t_16)⟩)), ⟨by rw [ht]; exact hP9, va_K.moved hW.alike hK9, hD9⟩⟩, hS.F ht⟩) hS.2.2 dX5_allHold_65
      · have t_16 : (0 : Int) ≤ x_13.toInt := i_nlt rfl (by decide) c_15
        refine lv_iload hx hb dX5_allHold_33 (lv_at hl 0 rfl) ?_
        refine lv_aload_n hx hb dX5_allHold_35 rfl (lv_at hl 5 rfl) ?_
        refine va_alen (v := 6) hx hb hK hP 5 4 rfl rfl rfl dX5_allHold_36 ?_
        refine lv_icmp_ge (tgt := 64) hx hb dX5_allHold_37 (by decide) (fun c_17 => ?_) (fun c_17 => ?_)
        · have t_18 : (6 : Int) ≤ x_13.toInt := i_le (by decide) rfl c_17
          refine lv_iconst (v := 0) hx hb dX5_allHold_64 (by decide) ?_
          refine W.widen (k := 0) (n := 0) (Nat.le_of_ble_eq_true rfl) (Nat.le_of_ble_eq_true rfl) ?_
          have hP9 := hP.sub (ws' := [(h0, .inr (5, [.ref b_deed, .ref b_value, .ref b_tests, .ref b_thing, .ref b_sign, .ref b_number, .int n_bk])), (b_tests, .inl (k_tests, 16, .inl f_tests)), (b_thing, .inl (k_thing, 48, .inl f_thing)), (b_sign, .inl (k_sign, 48, .inl f_sign)), (b_number, .inl (k_number, 48, .inl f_number)), (a_fa, .inl (k_fa, 6, .inl f_fa))]) [0, 1, 2, 3, 4, 5] rfl
          have hD9 := hD.sub (ws' := [(h0, .inr (5, [.ref b_deed, .ref b_value, .ref b_tests, .ref b_thing, .ref b_sign, .ref b_number, .int n_bk])), (b_tests, .inl (k_tests, 16, .inl f_tests)), (b_thing, .inl (k_thing, 48, .inl f_thing)), (b_sign, .inl (k_sign, 48, .inl f_sign)), (b_number, .inl (k_number, 48, .inl f_number)), (a_fa, .inl (k_fa, 6, .inl f_fa))]) [0, 1, 2, 3, 4, 5] (by decide) rfl
          have hK9 := hK.sub (tys' := [(k_tests, .int), (k_thing, .int), (k_sign, .int), (k_number, .int), (k_fa, .int)]) [0, 1, 2, 3, 4] rfl
          exact W.zret (ty := .boolean) (v := 0) hx hb hr rfl (fun t ht hW => ⟨⟨0, (), rfl, (Or.inr (⟨rfl, (lg_X5_allHold_9 v1 i_1 n1 x_2 x_7 x_10 x_13 yv hi1_0 hmu1 t_4 t_6 t_9 t_12 t_16 t_18)⟩)), ⟨by rw [ht]; exact hP9, va_K.moved hW.alike hK9, hD9⟩⟩, hS.F ht⟩) hS.2.2 dX5_allHold_65
        · have t_18 : x_13.toInt < (6 : Int) := i_nle (by decide) rfl c_17
          refine lv_aload_n hx hb dX5_allHold_40 rfl (lv_at hl 5 rfl) ?_
          refine lv_iload hx hb dX5_allHold_41 (lv_at hl 0 rfl) ?_
          refine va_iald hx hb hK hP 5 4 rfl rfl (i_in rfl (lg_X5_allHold_10 v1 i_1 n1 x_2 x_7 x_10 x_13 yv hi1_0 hmu1 t_4 t_6 t_9 t_12 t_16 t_18)) dX5_allHold_43 ?_
          refine lv_topi (fun x_19 ex_20 => ?_)
          refine lv_aload_n hx hb dX5_allHold_44 rfl (lv_at hl 3 rfl) ?_
          refine va_get (D := (dC, dI)) (ci := 5) (v := .ref b_sign) (C := RX5) (T := TX5) (N := 7) hx hb htb iX5 hown hK hP 0 rfl rfl 4 (Nat.le_of_ble_eq_true rfl) (htb _ m_283) (fun _ h9 => h9) rfl dX5_allHold_45 ?_
          refine lv_iload hx hb dX5_allHold_48 (lv_at hl 1 rfl) ?_
          refine va_iald hx hb hK hP 3 2 rfl rfl (i_in rfl (lg_X5_allHold_11 v1 i_1 n1 x_2 x_7 x_10 x_13 yv hi1_0 hmu1 t_4 t_6 t_9 t_12 t_16 t_18)) dX5_allHold_50 ?_
          refine lv_topi (fun x_21 ex_22 => ?_)
          refine lv_aload_n hx hb dX5_allHold_51 rfl (lv_at hl 3 rfl) ?_
          refine va_get (D := (dC, dI)) (ci := 5) (v := .ref b_number) (C := RX5) (T := TX5) (N := 7) hx hb htb iX5 hown hK hP 0 rfl rfl 5 (Nat.le_of_ble_eq_true rfl) (htb _ m_284) (fun _ h9 => h9) rfl dX5_allHold_52 ?_
          refine lv_iload hx hb dX5_allHold_55 (lv_at hl 1 rfl) ?_
          refine va_iald hx hb hK hP 4 3 rfl rfl (i_in rfl (lg_X5_allHold_11 v1 i_1 n1 x_2 x_7 x_10 x_13 yv hi1_0 hmu1 t_4 t_6 t_9 t_12 t_16 t_18)) dX5_allHold_57 ?_
          refine lv_topi (fun x_23 ex_24 => ?_)
          have hPc := hP.sub (ws' := []) [] rfl
          have hDc := hD.sub (ws' := []) [] (by decide) rfl
          have hKc := hK.sub (tys' := []) [] rfl
          have hFc := va_free (wc := []) hD hS hA [] rfl
          refine va_calli (va_runS (As := [.int x_19, .int x_21, .int x_23]) (rest := []) ⟨hx, hb, hml, hown, htb⟩ (kX5_holds l dC dI H.size x_19 x_21 x_23 ) ⟨callB_of 3 htb (gd_c m_662) rfl rfl rfl (htb _ m_12) (htb _ m_660) hdX5_holds ⟨(Nat.le_of_ble_eq_true rfl), (Nat.le_of_ble_eq_true rfl)⟩, htb _ m_661⟩ ⟨pcW_blind, pcW_at hPc hKc hDc hN⟩ rfl rfl hl.1 rfl (lv_room (Nat.le_of_ble_eq_true rfl)) dX5_allHold_58 ⟨(Nat.le_of_ble_eq_true rfl), (Nat.le_of_ble_eq_true rfl)⟩) hS (fun q _ h => hFc q h) hFc (fun r_25 u t H1 locs1 ht hvm h_26 hB hz1 hk1 hS1 => ?_)
          obtain ⟨hP1, hK1, hD1⟩ := hB
          rw [ht] at hP1
          obtain ⟨hPn, hDn⟩ := va_join (wr := [(h0, .inr (5, [.ref b_deed, .ref b_value, .ref b_tests, .ref b_thing, .ref b_sign, .ref b_number, .int n_bk])), (b_tests, .inl (k_tests, 16, .inl f_tests)), (b_thing, .inl (k_thing, 48, .inl f_thing)), (b_sign, .inl (k_sign, 48, .inl f_sign)), (b_number, .inl (k_number, 48, .inl f_number)), (a_fa, .inl (k_fa, 6, .inl f_fa))]) (w1 := []) hP hD [] [0, 1, 2, 3, 4, 5] rfl rfl (by decide) (by decide) hk1 hFc hP1 hD1
          clear hP1 hD1 hK1
          clear hP hD hS hPc hDc hKc hFc hk1 hz1 ht hvm
          clear t
          revert hS1 hPn hDn; generalize H1 = H; generalize locs1 = locs; intro hS hP hD
          change va_P (dC, dI) vwCl [(h0, .inr (5, [.ref b_deed, .ref b_value, .ref b_tests, .ref b_thing, .ref b_sign, .ref b_number, .int n_bk])), (b_tests, .inl (k_tests, 16, .inl f_tests)), (b_thing, .inl (k_thing, 48, .inl f_thing)), (b_sign, .inl (k_sign, 48, .inl f_sign)), (b_number, .inl (k_number, 48, .inl f_number)), (a_fa, .inl (k_fa, 6, .inl f_fa))] H at hP
          change va_D A [(h0, .inr (5, [.ref b_deed, .ref b_value, .ref b_tests, .ref b_thing, .ref b_sign, .ref b_number, .int n_bk])), (b_tests, .inl (k_tests, 16, .inl f_tests)), (b_thing, .inl (k_thing, 48, .inl f_thing)), (b_sign, .inl (k_sign, 48, .inl f_sign)), (b_number, .inl (k_number, 48, .inl f_number)), (a_fa, .inl (k_fa, 6, .inl f_fa))] at hD
          rcases h_26 with ⟨rfl, h_26⟩ | ⟨rfl, h_26⟩
          · refine lv_if_ne (tgt := 66) hx hb dX5_allHold_61 (by decide) ?_ (fun c_27 => absurd c_27 (by decide))
            intro _
            obtain ⟨x_28, ex_29⟩ : ∃ y : Int32, y = i_1 + Int32.ofInt 1 := ⟨_, rfl⟩
            have t_30 : x_28.toInt = i_1.toInt + 1 := i_add rfl (by decide) (lg_X5_allHold_12 v1 i_1 n1 x_2 x_7 x_10 x_13 yv hi1_0 hmu1 t_4 t_6 t_9 t_12 t_16 t_18 h_26) ex_29
            refine lv_iinc (v := x_28) (lv' := [(3, .int x_28), (5, .int x_13), (4, .int x_10), (0, .ref h0), (1, .int v1), (2, .ref a_fa)]) hx hb dX5_allHold_66 hl (k := 2) rfl ex_29.symm (by decide) rfl ?_
            clear hl; intro ls hl
            refine lv_goto (tgt := 2) hx hb dX5_allHold_69 (by decide) ?_
            exact ih1 x_28  H locs ls (lg_X5_allHold_13 v1 i_1 n1 x_2 x_7 x_10 x_13 x_28 yv hi1_0 hmu1 t_4 t_6 t_9 t_12 t_16 t_18 h_26 t_30) (lg_X5_allHold_14 v1 i_1 n1 x_2 x_7 x_10 x_13 x_28 yv hi1_0 hmu1 t_4 t_6 t_9 t_12 t_16 t_18 h_26 t_30)   (lv_sub hl [0, 3, 4, 5] rfl) (hP.sub [0, 1, 2, 3, 4, 5] rfl) (hD.sub [0, 1, 2, 3, 4, 5] (by decide) rfl) hS
          · refine lv_if_ne (tgt := 66) hx hb dX5_allHold_61 (by decide) (fun c_31 => absurd (by decide) c_31) ?_
            intro _
            refine lv_iconst (v := 0) hx hb dX5_allHold_64 (by decide) ?_
            refine W.widen (k := 0) (n := 0) (Nat.le_of_ble_eq_true rfl) (Nat.le_of_ble_eq_true rfl) ?_
            have hP9 := hP.sub (ws' := [(h0, .inr (5, [.ref b_deed, .ref b_value, .ref b_tests, .ref b_thing, .ref b_sign, .ref b_number, .int n_bk])), (b_tests, .inl (k_tests, 16, .inl f_tests)), (b_thing, .inl (k_thing, 48, .inl f_thing)), (b_sign, .inl (k_sign, 48, .inl f_sign)), (b_number, .inl (k_number, 48, .inl f_number)), (a_fa, .inl (k_fa, 6, .inl f_fa))]) [0, 1, 2, 3, 4, 5] rfl
            have hD9 := hD.sub (ws' := [(h0, .inr (5, [.ref b_deed, .ref b_value, .ref b_tests, .ref b_thing, .ref b_sign, .ref b_number, .int n_bk])), (b_tests, .inl (k_tests, 16, .inl f_tests)), (b_thing, .inl (k_thing, 48, .inl f_thing)), (b_sign, .inl (k_sign, 48, .inl f_sign)), (b_number, .inl (k_number, 48, .inl f_number)), (a_fa, .inl (k_fa, 6, .inl f_fa))]) [0, 1, 2, 3, 4, 5] (by decide) rfl
            have hK9 := hK.sub (tys' := [(k_tests, .int), (k_thing, .int), (k_sign, .int), (k_number, .int), (k_fa, .int)]) [0, 1, 2, 3, 4] rfl
            exact W.zret (ty := .boolean) (v := 0) hx hb hr rfl (fun t ht hW => ⟨⟨0, (), rfl, (Or.inr (⟨rfl, (lg_X5_allHold_15 v1 i_1 n1 x_2 x_7 x_10 x_13 yv hi1_0 hmu1 t_4 t_6 t_9 t_12 t_16 t_18 h_26)⟩)), ⟨by rw [ht]; exact hP9, va_K.moved hW.alike hK9, hD9⟩⟩, hS.F ht⟩) hS.2.2 dX5_allHold_65

theorem lg_X5_firstThatHolds_0 (n_bk : Int32) (yk : 0 ≤ n_bk.toInt ∧ n_bk.toInt ≤ 16) : (n_bk.toInt - (0 : Int)) < ((Int.toNat (n_bk.toInt - (0 : Int)) + 1 : Nat) : Int) := by
  have := rg_rng n_bk; omega
theorem lg_X5_firstThatHolds_1 (n_bk : Int32) (yk : 0 ≤ n_bk.toInt ∧ n_bk.toInt ≤ 16) : 0 ≤ (0 : Int) ∧ (0 : Int) ≤ n_bk.toInt := by
  have := rg_rng n_bk; omega
theorem lg_X5_firstThatHolds_2 (n_bk : Int32) (i_1 : Int32) (yk : 0 ≤ n_bk.toInt ∧ n_bk.toInt ≤ 16) (hi1_0 : 0 ≤ i_1.toInt ∧ i_1.toInt ≤ n_bk.toInt) (hmu1 : (n_bk.toInt - i_1.toInt) < ((0 : Nat) : Int)) : False := by
  have := rg_rng n_bk; have := rg_rng i_1; omega
theorem lg_X5_firstThatHolds_3 (n_bk : Int32) (i_1 : Int32) (n1 : Nat) (yk : 0 ≤ n_bk.toInt ∧ n_bk.toInt ≤ 16) (hi1_0 : 0 ≤ i_1.toInt ∧ i_1.toInt ≤ n_bk.toInt) (hmu1 : (n_bk.toInt - i_1.toInt) < ((n1 + 1 : Nat) : Int)) (t_3 : n_bk.toInt ≤ i_1.toInt) : (-1) ≤ (-1 : Int) ∧ (-1 : Int) < n_bk.toInt := by
  have := rg_rng n_bk; have := rg_rng i_1; omega
theorem lg_X5_firstThatHolds_4 (n_bk : Int32) (i_1 : Int32) (n1 : Nat) (yk : 0 ≤ n_bk.toInt ∧ n_bk.toInt ≤ 16) (hi1_0 : 0 ≤ i_1.toInt ∧ i_1.toInt ≤ n_bk.toInt) (hmu1 : (n_bk.toInt - i_1.toInt) < ((n1 + 1 : Nat) : Int)) (t_3 : i_1.toInt < n_bk.toInt) : 0 ≤ i_1.toInt ∧ i_1.toInt < ((16 : Nat) : Int) := by
  have := rg_rng n_bk; have := rg_rng i_1; omega
theorem lg_X5_firstThatHolds_5 (n_bk : Int32) (v1 : Int32) (i_1 : Int32) (n1 : Nat) (x_4 : Int32) (yk : 0 ≤ n_bk.toInt ∧ n_bk.toInt ≤ 16) (hi1_0 : 0 ≤ i_1.toInt ∧ i_1.toInt ≤ n_bk.toInt) (hmu1 : (n_bk.toInt - i_1.toInt) < ((n1 + 1 : Nat) : Int)) (t_3 : i_1.toInt < n_bk.toInt) (t_7 : ¬ x_4.toInt = (12 : Int)) (t_9 : ¬ (0 : Int) = v1.toInt) : -2147483648 ≤ i_1.toInt + 1 ∧ i_1.toInt + 1 < 2147483648 := by
  have := rg_rng n_bk; have := rg_rng v1; have := rg_rng i_1; have := rg_rng x_4; omega
theorem lg_X5_firstThatHolds_6 (n_bk : Int32) (v1 : Int32) (i_1 : Int32) (n1 : Nat) (x_4 : Int32) (x_10 : Int32) (yk : 0 ≤ n_bk.toInt ∧ n_bk.toInt ≤ 16) (hi1_0 : 0 ≤ i_1.toInt ∧ i_1.toInt ≤ n_bk.toInt) (hmu1 : (n_bk.toInt - i_1.toInt) < ((n1 + 1 : Nat) : Int)) (t_3 : i_1.toInt < n_bk.toInt) (t_7 : ¬ x_4.toInt = (12 : Int)) (t_9 : ¬ (0 : Int) = v1.toInt) (t_12 : x_10.toInt = i_1.toInt + 1) : (n_bk.toInt - x_10.toInt) < (n1 : Int) := by
  have := rg_rng n_bk; have := rg_rng v1; have := rg_rng i_1; have := rg_rng x_4; have := rg_rng x_10; omega
theorem lg_X5_firstThatHolds_7 (n_bk : Int32) (v1 : Int32) (i_1 : Int32) (n1 : Nat) (x_4 : Int32) (x_10 : Int32) (yk : 0 ≤ n_bk.toInt ∧ n_bk.toInt ≤ 16) (hi1_0 : 0 ≤ i_1.toInt ∧ i_1.toInt ≤ n_bk.toInt) (hmu1 : (n_bk.toInt - i_1.toInt) < ((n1 + 1 : Nat) : Int)) (t_3 : i_1.toInt < n_bk.toInt) (t_7 : ¬ x_4.toInt = (12 : Int)) (t_9 : ¬ (0 : Int) = v1.toInt) (t_12 : x_10.toInt = i_1.toInt + 1) : 0 ≤ x_10.toInt ∧ x_10.toInt ≤ n_bk.toInt := by
  have := rg_rng n_bk; have := rg_rng v1; have := rg_rng i_1; have := rg_rng x_4; have := rg_rng x_10; omega
theorem lg_X5_firstThatHolds_8 (n_bk : Int32) (v1 : Int32) (i_1 : Int32) (n1 : Nat) (x_4 : Int32) (yk : 0 ≤ n_bk.toInt ∧ n_bk.toInt ≤ 16) (hi1_0 : 0 ≤ i_1.toInt ∧ i_1.toInt ≤ n_bk.toInt) (hmu1 : (n_bk.toInt - i_1.toInt) < ((n1 + 1 : Nat) : Int)) (t_3 : i_1.toInt < n_bk.toInt) (t_7 : ¬ x_4.toInt = (12 : Int)) (t_9 : (0 : Int) = v1.toInt) : 0 ≤ i_1.toInt ∧ i_1.toInt < 16 := by
  have := rg_rng n_bk; have := rg_rng v1; have := rg_rng i_1; have := rg_rng x_4; omega
theorem lg_X5_firstThatHolds_9 (n_bk : Int32) (v1 : Int32) (i_1 : Int32) (n1 : Nat) (x_4 : Int32) (yk : 0 ≤ n_bk.toInt ∧ n_bk.toInt ≤ 16) (hi1_0 : 0 ≤ i_1.toInt ∧ i_1.toInt ≤ n_bk.toInt) (hmu1 : (n_bk.toInt - i_1.toInt) < ((n1 + 1 : Nat) : Int)) (t_3 : i_1.toInt < n_bk.toInt) (t_7 : ¬ x_4.toInt = (12 : Int)) (t_9 : (0 : Int) = v1.toInt) (h_14 : True) : (-1) ≤ i_1.toInt ∧ i_1.toInt < n_bk.toInt := by
  have := rg_rng n_bk; have := rg_rng v1; have := rg_rng i_1; have := rg_rng x_4; omega
theorem lg_X5_firstThatHolds_10 (n_bk : Int32) (v1 : Int32) (i_1 : Int32) (n1 : Nat) (x_4 : Int32) (yk : 0 ≤ n_bk.toInt ∧ n_bk.toInt ≤ 16) (hi1_0 : 0 ≤ i_1.toInt ∧ i_1.toInt ≤ n_bk.toInt) (hmu1 : (n_bk.toInt - i_1.toInt) < ((n1 + 1 : Nat) : Int)) (t_3 : i_1.toInt < n_bk.toInt) (t_7 : ¬ x_4.toInt = (12 : Int)) (t_9 : (0 : Int) = v1.toInt) (h_14 : True) : -2147483648 ≤ i_1.toInt + 1 ∧ i_1.toInt + 1 < 2147483648 := by
  have := rg_rng n_bk; have := rg_rng v1; have := rg_rng i_1; have := rg_rng x_4; omega
theorem lg_X5_firstThatHolds_11 (n_bk : Int32) (v1 : Int32) (i_1 : Int32) (n1 : Nat) (x_4 : Int32) (x_17 : Int32) (yk : 0 ≤ n_bk.toInt ∧ n_bk.toInt ≤ 16) (hi1_0 : 0 ≤ i_1.toInt ∧ i_1.toInt ≤ n_bk.toInt) (hmu1 : (n_bk.toInt - i_1.toInt) < ((n1 + 1 : Nat) : Int)) (t_3 : i_1.toInt < n_bk.toInt) (t_7 : ¬ x_4.toInt = (12 : Int)) (t_9 : (0 : Int) = v1.toInt) (h_14 : True) (t_19 : x_17.toInt = i_1.toInt + 1) : (n_bk.toInt - x_17.toInt) < (n1 : Int) := by
  have := rg_rng n_bk; have := rg_rng v1; have := rg_rng i_1; have := rg_rng x_4; have := rg_rng x_17; omega
theorem lg_X5_firstThatHolds_12 (n_bk : Int32) (v1 : Int32) (i_1 : Int32) (n1 : Nat) (x_4 : Int32) (x_17 : Int32) (yk : 0 ≤ n_bk.toInt ∧ n_bk.toInt ≤ 16) (hi1_0 : 0 ≤ i_1.toInt ∧ i_1.toInt ≤ n_bk.toInt) (hmu1 : (n_bk.toInt - i_1.toInt) < ((n1 + 1 : Nat) : Int)) (t_3 : i_1.toInt < n_bk.toInt) (t_7 : ¬ x_4.toInt = (12 : Int)) (t_9 : (0 : Int) = v1.toInt) (h_14 : True) (t_19 : x_17.toInt = i_1.toInt + 1) : 0 ≤ x_17.toInt ∧ x_17.toInt ≤ n_bk.toInt := by
  have := rg_rng n_bk; have := rg_rng v1; have := rg_rng i_1; have := rg_rng x_4; have := rg_rng x_17; omega
theorem lg_X5_firstThatHolds_13 (n_bk : Int32) (v1 : Int32) (i_1 : Int32) (n1 : Nat) (x_4 : Int32) (yk : 0 ≤ n_bk.toInt ∧ n_bk.toInt ≤ 16) (hi1_0 : 0 ≤ i_1.toInt ∧ i_1.toInt ≤ n_bk.toInt) (hmu1 : (n_bk.toInt - i_1.toInt) < ((n1 + 1 : Nat) : Int)) (t_3 : i_1.toInt < n_bk.toInt) (t_7 : x_4.toInt = (12 : Int)) (t_21 : ¬ (1 : Int) = v1.toInt) : -2147483648 ≤ i_1.toInt + 1 ∧ i_1.toInt + 1 < 2147483648 := by
  have := rg_rng n_bk; have := rg_rng v1; have := rg_rng i_1; have := rg_rng x_4; omega
theorem lg_X5_firstThatHolds_14 (n_bk : Int32) (v1 : Int32) (i_1 : Int32) (n1 : Nat) (x_4 : Int32) (x_22 : Int32) (yk : 0 ≤ n_bk.toInt ∧ n_bk.toInt ≤ 16) (hi1_0 : 0 ≤ i_1.toInt ∧ i_1.toInt ≤ n_bk.toInt) (hmu1 : (n_bk.toInt - i_1.toInt) < ((n1 + 1 : Nat) : Int)) (t_3 : i_1.toInt < n_bk.toInt) (t_7 : x_4.toInt = (12 : Int)) (t_21 : ¬ (1 : Int) = v1.toInt) (t_24 : x_22.toInt = i_1.toInt + 1) : (n_bk.toInt - x_22.toInt) < (n1 : Int) := by
  have := rg_rng n_bk; have := rg_rng v1; have := rg_rng i_1; have := rg_rng x_4; have := rg_rng x_22; omega
theorem lg_X5_firstThatHolds_15 (n_bk : Int32) (v1 : Int32) (i_1 : Int32) (n1 : Nat) (x_4 : Int32) (x_22 : Int32) (yk : 0 ≤ n_bk.toInt ∧ n_bk.toInt ≤ 16) (hi1_0 : 0 ≤ i_1.toInt ∧ i_1.toInt ≤ n_bk.toInt) (hmu1 : (n_bk.toInt - i_1.toInt) < ((n1 + 1 : Nat) : Int)) (t_3 : i_1.toInt < n_bk.toInt) (t_7 : x_4.toInt = (12 : Int)) (t_21 : ¬ (1 : Int) = v1.toInt) (t_24 : x_22.toInt = i_1.toInt + 1) : 0 ≤ x_22.toInt ∧ x_22.toInt ≤ n_bk.toInt := by
  have := rg_rng n_bk; have := rg_rng v1; have := rg_rng i_1; have := rg_rng x_4; have := rg_rng x_22; omega
theorem lg_X5_firstThatHolds_16 (n_bk : Int32) (v1 : Int32) (i_1 : Int32) (n1 : Nat) (x_4 : Int32) (yk : 0 ≤ n_bk.toInt ∧ n_bk.toInt ≤ 16) (hi1_0 : 0 ≤ i_1.toInt ∧ i_1.toInt ≤ n_bk.toInt) (hmu1 : (n_bk.toInt - i_1.toInt) < ((n1 + 1 : Nat) : Int)) (t_3 : i_1.toInt < n_bk.toInt) (t_7 : x_4.toInt = (12 : Int)) (t_21 : (1 : Int) = v1.toInt) : 0 ≤ i_1.toInt ∧ i_1.toInt < 16 := by
  have := rg_rng n_bk; have := rg_rng v1; have := rg_rng i_1; have := rg_rng x_4; omega
theorem lg_X5_firstThatHolds_17 (n_bk : Int32) (v1 : Int32) (i_1 : Int32) (n1 : Nat) (x_4 : Int32) (yk : 0 ≤ n_bk.toInt ∧ n_bk.toInt ≤ 16) (hi1_0 : 0 ≤ i_1.toInt ∧ i_1.toInt ≤ n_bk.toInt) (hmu1 : (n_bk.toInt - i_1.toInt) < ((n1 + 1 : Nat) : Int)) (t_3 : i_1.toInt < n_bk.toInt) (t_7 : x_4.toInt = (12 : Int)) (t_21 : (1 : Int) = v1.toInt) (h_26 : True) : (-1) ≤ i_1.toInt ∧ i_1.toInt < n_bk.toInt := by
  have := rg_rng n_bk; have := rg_rng v1; have := rg_rng i_1; have := rg_rng x_4; omega
theorem lg_X5_firstThatHolds_18 (n_bk : Int32) (v1 : Int32) (i_1 : Int32) (n1 : Nat) (x_4 : Int32) (yk : 0 ≤ n_bk.toInt ∧ n_bk.toInt ≤ 16) (hi1_0 : 0 ≤ i_1.toInt ∧ i_1.toInt ≤ n_bk.toInt) (hmu1 : (n_bk.toInt - i_1.toInt) < ((n1 + 1 : Nat) : Int)) (t_3 : i_1.toInt < n_bk.toInt) (t_7 : x_4.toInt = (12 : Int)) (t_21 : (1 : Int) = v1.toInt) (h_26 : True) : -2147483648 ≤ i_1.toInt + 1 ∧ i_1.toInt + 1 < 2147483648 := by
  have := rg_rng n_bk; have := rg_rng v1; have := rg_rng i_1; have := rg_rng x_4; omega
theorem lg_X5_firstThatHolds_19 (n_bk : Int32) (v1 : Int32) (i_1 : Int32) (n1 : Nat) (x_4 : Int32) (x_29 : Int32) (yk : 0 ≤ n_bk.toInt ∧ n_bk.toInt ≤ 16) (hi1_0 : 0 ≤ i_1.toInt ∧ i_1.toInt ≤ n_bk.toInt) (hmu1 : (n_bk.toInt - i_1.toInt) < ((n1 + 1 : Nat) : Int)) (t_3 : i_1.toInt < n_bk.toInt) (t_7 : x_4.toInt = (12 : Int)) (t_21 : (1 : Int) = v1.toInt) (h_26 : True) (t_31 : x_29.toInt = i_1.toInt + 1) : (n_bk.toInt - x_29.toInt) < (n1 : Int) := by
  have := rg_rng n_bk; have := rg_rng v1; have := rg_rng i_1; have := rg_rng x_4; have := rg_rng x_29; omega
theorem lg_X5_firstThatHolds_20 (n_bk : Int32) (v1 : Int32) (i_1 : Int32) (n1 : Nat) (x_4 : Int32) (x_29 : Int32) (yk : 0 ≤ n_bk.toInt ∧ n_bk.toInt ≤ 16) (hi1_0 : 0 ≤ i_1.toInt ∧ i_1.toInt ≤ n_bk.toInt) (hmu1 : (n_bk.toInt - i_1.toInt) < ((n1 + 1 : Nat) : Int)) (t_3 : i_1.toInt < n_bk.toInt) (t_7 : x_4.toInt = (12 : Int)) (t_21 : (1 : Int) = v1.toInt) (h_26 : True) (t_31 : x_29.toInt = i_1.toInt + 1) : 0 ≤ x_29.toInt ∧ x_29.toInt ≤ n_bk.toInt := by
  have := rg_rng n_bk; have := rg_rng v1; have := rg_rng i_1; have := rg_rng x_4; have := rg_rng x_29; omega
set_option maxHeartbeats 4000000 in
set_option maxRecDepth 100000 in
theorem kX5_firstThatHolds (l : Launch) (dC : Nat → ClassId) (dI : Nat → Nat → Nat) (sz : Nat) (h0 : Nat) (b_deed : Nat) (b_value : Nat) (b_tests : Nat) (b_thing : Nat) (b_sign : Nat) (b_number : Nat) (n_bk : Int32) (k_deed : ClassId) (k_tests : ClassId) (k_thing : ClassId) (k_sign : ClassId) (k_number : ClassId) (f_deed : Nat → Int32) (f_tests : Nat → Int32) (f_thing : Nat → Int32) (f_sign : Nat → Int32) (f_number : Nat → Int32) (a_fa : Nat) (k_fa : ClassId) (f_fa : Nat → Int32) (v1 : Int32) (yk : 0 ≤ n_bk.toInt ∧ n_bk.toInt ≤ 16) (yt : Rg f_tests 16 0 3) : Met l yX5_firstThatHolds (Cond.code yX5_firstThatHolds cX5_firstThatHolds 4 (some .int) :: bg) ({ frames := 2, cells := 0, slots := 0, locals := 47 }) (pcW dC dI [.ref h0, .int v1, .ref a_fa] sz [(h0, .inr (5, [.ref b_deed, .ref b_value, .ref b_tests, .ref b_thing, .ref b_sign, .ref b_number, .int n_bk])), (b_deed, .inl (k_deed, 16, .inl f_deed)), (b_tests, .inl (k_tests, 16, .inl f_tests)), (b_thing, .inl (k_thing, 48, .inl f_thing)), (b_sign, .inl (k_sign, 48, .inl f_sign)), (b_number, .inl (k_number, 48, .inl f_number)), (a_fa, .inl (k_fa, 6, .inl f_fa))] [(k_deed, .int), (k_tests, .int), (k_thing, .int), (k_sign, .int), (k_number, .int), (k_fa, .int)]) (va_Qi (fun (r : Int32) (u : Unit) => (-1) ≤ r.toInt ∧ r.toInt < n_bk.toInt) (fun (u : Unit) (t : State) => va_P (dC, dI) vwCl [(h0, .inr (5, [.ref b_deed, .ref b_value, .ref b_tests, .ref b_thing, .ref b_sign, .ref b_number, .int n_bk])), (b_deed, .inl (k_deed, 16, .inl f_deed)), (b_tests, .inl (k_tests, 16, .inl f_tests)), (b_thing, .inl (k_thing, 48, .inl f_thing)), (b_sign, .inl (k_sign, 48, .inl f_sign)), (b_number, .inl (k_number, 48, .inl f_number)), (a_fa, .inl (k_fa, 6, .inl f_fa))] t.heap ∧ va_K (dC, dI) vwCl [(k_deed, .int), (k_tests, .int), (k_thing, .int), (k_sign, .int), (k_number, .int), (k_fa, .int)] t ∧ va_D (va_A [(h0, .inr (5, [.ref b_deed, .ref b_value, .ref b_tests, .ref b_thing, .ref b_sign, .ref b_number, .int n_bk])), (b_deed, .inl (k_deed, 16, .inl f_deed)), (b_tests, .inl (k_tests, 16, .inl f_tests)), (b_thing, .inl (k_thing, 48, .inl f_thing)), (b_sign, .inl (k_sign, 48, .inl f_sign)), (b_number, .inl (k_number, 48, .inl f_number)), (a_fa, .inl (k_fa, 6, .inl f_fa))] sz) [(h0, .inr (5, [.ref b_deed, .ref b_value, .ref b_tests, .ref b_thing, .ref b_sign, .ref b_number, .int n_bk])), (b_deed, .inl (k_deed, 16, .inl f_deed)), (b_tests, .inl (k_tests, 16, .inl f_tests)), (b_thing, .inl (k_thing, 48, .inl f_thing)), (b_sign, .inl (k_sign, 48, .inl f_sign)), (b_number, .inl (k_number, 48, .inl f_number)), (a_fa, .inl (k_fa, 6, .inl f_fa))]) (va_A [(h0, .inr (5, [.ref b_deed, .ref b_value, .ref b_tests, .ref b_thing, .ref b_sign, .ref b_number, .int n_bk])), (b_deed, .inl (k_deed, 16, .inl f_deed)), (b_tests, .inl (k_tests, 16, .inl f_tests)), (b_thing, .inl (k_thing, 48, .inl f_thing)), (b_sign, .inl (k_sign, 48, .inl f_sign)), (b_number, .inl (k_number, 48, .inl f_number)), (a_fa, .inl (k_fa, 6, .inl f_fa))] sz)) 0 0 (va_A [(h0, .inr (5, [.ref b_deed, .ref b_value, .ref b_tests, .ref b_thing, .ref b_sign, .ref b_number, .int n_bk])), (b_deed, .inl (k_deed, 16, .inl f_deed)), (b_tests, .inl (k_tests, 16, .inl f_tests)), (b_thing, .inl (k_thing, 48, .inl f_thing)), (b_sign, .inl (k_sign, 48, .inl f_sign)), (b_number, .inl (k_number, 48, .inl f_number)), (a_fa, .inl (k_fa, 6, .inl f_fa))] sz) := by
  refine Met.ofW (cc := cX5_firstThatHolds) (maxL := 4) (ret := (some .int)) pnX5 rfl ?_
  intro p e s m args below meth c s₁ B hml hv
  obtain ⟨rfl, hsz, hP, hK, hD0, hN⟩ := hv
  have hx := B.exec
  have hb := B.bytes
  have hr := B.returns
  have htb : ∀ w ∈ bg, w.before [.ref h0, .int v1, .ref a_fa].toArray s = true := fun w h => atoms_spec (ws := Cond.code yX5_firstThatHolds cX5_firstThatHolds 4 (some .int) :: bg) B.pre w (List.mem_cons_of_mem _ h)
  have hown : s.vm.findClass RX5 = some m.cls := findClass_of_methodNamed B.named
  have hlocks := B.notSynchronized
  subst hsz
  have hD := hD0.self (sz := s.heap.size)
  generalize hAe : va_A [(h0, .inr (5, [.ref b_deed, .ref b_value, .ref b_tests, .ref b_thing, .ref b_sign, .ref b_number, .int n_bk])), (b_deed, .inl (k_deed, 16, .inl f_deed)), (b_tests, .inl (k_tests, 16, .inl f_tests)), (b_thing, .inl (k_thing, 48, .inl f_thing)), (b_sign, .inl (k_sign, 48, .inl f_sign)), (b_number, .inl (k_number, 48, .inl f_number)), (a_fa, .inl (k_fa, 6, .inl f_fa))] s.heap.size = A at hD ⊢
  have hA : ∀ q : Nat, s.heap.size ≤ q → A q := fun q h => by rw [← hAe]; exact Or.inr h
  have hS : va_S A s.heap s.heap [] := va_S.rf
  have hl := lv_entry ([.ref h0, .int v1, .ref a_fa]) (n := 4) (Nat.le_of_ble_eq_true rfl)
  rw [lg_entry_eq]
  generalize (lg_sl ([.ref h0, .int v1, .ref a_fa]) ++ List.replicate (4 - (lg_sl ([.ref h0, .int v1, .ref a_fa])).length) Slot.unset).toArray = ls at hl ⊢
  change lv_has ls 4 [(0, .ref h0), (1, .int v1), (2, .ref a_fa)] at hl
  clear hD0 hAe
  refine go0 (wsP := fun H => va_P (dC, dI) vwCl [(h0, .inr (5, [.ref b_deed, .ref b_value, .ref b_tests, .ref b_thing, .ref b_sign, .ref b_number, .int n_bk])), (b_deed, .inl (k_deed, 16, .inl f_deed)), (b_tests, .inl (k_tests, 16, .inl f_tests)), (b_thing, .inl (k_thing, 48, .inl f_thing)), (b_sign, .inl (k_sign, 48, .inl f_sign)), (b_number, .inl (k_number, 48, .inl f_number)), (a_fa, .inl (k_fa, 6, .inl f_fa))] H) hP hS ?_
  clear hP hS; intro H locs hP hS
  change va_P (dC, dI) vwCl [(h0, .inr (5, [.ref b_deed, .ref b_value, .ref b_tests, .ref b_thing, .ref b_sign, .ref b_number, .int n_bk])), (b_deed, .inl (k_deed, 16, .inl f_deed)), (b_tests, .inl (k_tests, 16, .inl f_tests)), (b_thing, .inl (k_thing, 48, .inl f_thing)), (b_sign, .inl (k_sign, 48, .inl f_sign)), (b_number, .inl (k_number, 48, .inl f_number)), (a_fa, .inl (k_fa, 6, .inl f_fa))] H at hP
  refine lv_iconst (v := 0) hx hb dX5_firstThatHolds_0 (by decide) ?_
  refine lv_istore_n (lv' := [(3, .int 0), (0, .ref h0), (1, .int v1), (2, .ref a_fa)]) hx hb dX5_firstThatHolds_1 rfl hl (by decide) rfl ?_
  clear hl; intro ls hl
  refine (fun (lp : ∀ (n1 : Nat) (i_1 : Int32) (H : Heap) (locs : List Loc) (ls : Array Slot), (n_bk.toInt - i_1.toInt) < (n1 : Int) → (0 ≤ i_1.toInt ∧ i_1.toInt ≤ n_bk.toInt) → lv_has ls 4 [(3, .int i_1), (0, .ref h0), (1, .int v1), (2, .ref a_fa)] → va_P (dC, dI) vwCl [(h0, .inr (5, [.ref b_deed, .ref b_value, .ref b_tests, .ref b_thing, .ref b_sign, .ref b_number, .int n_bk])), (b_deed, .inl (k_deed, 16, .inl f_deed)), (b_tests, .inl (k_tests, 16, .inl f_tests)), (b_thing, .inl (k_thing, 48, .inl f_thing)), (b_sign, .inl (k_sign, 48, .inl f_sign)), (b_number, .inl (k_number, 48, .inl f_number)), (a_fa, .inl (k_fa, 6, .inl f_fa))] H → va_D A [(h0, .inr (5, [.ref b_deed, .ref b_value, .ref b_tests, .ref b_thing, .ref b_sign, .ref b_number, .int n_bk])), (b_deed, .inl (k_deed, 16, .inl f_deed)), (b_tests, .inl (k_tests, 16, .inl f_tests)), (b_thing, .inl (k_thing, 48, .inl f_thing)), (b_sign, .inl (k_sign, 48, .inl f_sign)), (b_number, .inl (k_number, 48, .inl f_number)), (a_fa, .inl (k_fa, 6, .inl f_fa))] → va_S A s.heap H locs → W p l e _ s m _ below meth c H locs _ _ _ (F0 m 2 ls [])) => lp (Int.toNat (n_bk.toInt - (0 : Int)) + 1) 0   H locs ls ((lg_X5_firstThatHolds_0 n_bk yk)) (lg_X5_firstThatHolds_1 n_bk yk)   hl hP hD hS) ?_
  clear hP hD hS hl
  intro n1
  induction n1 with
  | zero =>
    intro i_1 H locs ls hmu1 hi1_0   hl hP hD hS
    exact False.elim (lg_X5_firstThatHolds_2 n_bk i_1 yk hi1_0 hmu1)
  | succ n1 ih1 =>
    intro i_1 H locs ls hmu1 hi1_0   hl hP hD hS
    refine lv_iload_n hx hb dX5_firstThatHolds_2 rfl (lv_at hl 0 rfl) ?_
    refine lv_aload_n hx hb dX5_firstThatHolds_3 rfl (lv_at hl 1 rfl) ?_
    refine va_get (D := (dC, dI)) (ci := 5) (v := .int n_bk) (C := RX5) (T := TX5) (N := 7) hx hb htb iX5 hown hK hP 0 rfl rfl 6 (Nat.le_of_ble_eq_true rfl) (htb _ m_285) (fun _ h9 => h9) rfl dX5_firstThatHolds_4 ?_
    refine lv_icmp_ge (tgt := 47) hx hb dX5_firstThatHolds_7 (by decide) (fun c_2 => ?_) (fun c_2 => ?_)
    · have t_3 : n_bk.toInt ≤ i_1.toInt := i_le rfl rfl c_2
      refine lv_iconst (v := (-1)) hx hb dX5_firstThatHolds_47 (by decide) ?_
      refine W.widen (k := 0) (n := 0) (Nat.le_of_ble_eq_true rfl) (Nat.le_of_ble_eq_true rfl) ?_
      have hP9 := hP.sub (ws' := [(h0, .inr (5, [.ref b_deed, .ref b_value, .ref b_tests, .ref b_thing, .ref b_sign, .ref b_number, .int n_bk])), (b_deed, .inl (k_deed, 16, .inl f_deed)), (b_tests, .inl (k_tests, 16, .inl f_tests)), (b_thing, .inl (k_thing, 48, .inl f_thing)), (b_sign, .inl (k_sign, 48, .inl f_sign)), (b_number, .inl (k_number, 48, .inl f_number)), (a_fa, .inl (k_fa, 6, .inl f_fa))]) [0, 1, 2, 3, 4, 5, 6] rfl
      have hD9 := hD.sub (ws' := [(h0, .inr (5, [.ref b_deed, .ref b_value, .ref b_tests, .ref b_thing, .ref b_sign, .ref b_number, .int n_bk])), (b_deed, .inl (k_deed, 16, .inl f_deed)), (b_tests, .inl (k_tests, 16, .inl f_tests)), (b_thing, .inl (k_thing, 48, .inl f_thing)), (b_sign, .inl (k_sign, 48, .inl f_sign)), (b_number, .inl (k_number, 48, .inl f_number)), (a_fa, .inl (k_fa, 6, .inl f_fa))]) [0, 1, 2, 3, 4, 5, 6] (by decide) rfl
      have hK9 := hK.sub (tys' := [(k_deed, .int), (k_tests, .int), (k_thing, .int), (k_sign, .int), (k_number, .int), (k_fa, .int)]) [0, 1, 2, 3, 4, 5] rfl
      exact W.iret (v := (-1)) hx hb hr (fun t ht hW => ⟨⟨(-1), (), rfl, (lg_X5_firstThatHolds_3 n_bk i_1 n1 yk hi1_0 hmu1 t_3), ⟨by rw [ht]; exact hP9, va_K.moved hW.alike hK9, hD9⟩⟩, hS.F ht⟩) hS.2.2 dX5_firstThatHolds_48
    · have t_3 : i_1.toInt < n_bk.toInt := i_nle rfl rfl c_2
      refine lv_aload_n hx hb dX5_firstThatHolds_10 rfl (lv_at hl 1 rfl) ?_
      refine va_get (D := (dC, dI)) (ci := 5) (v := .ref b_deed) (C := RX5) (T := TX5) (N := 7) hx hb htb iX5 hown hK hP 0 rfl rfl 0 (Nat.le_of_ble_eq_true rfl) (htb _ m_279) (fun _ h9 => h9) rfl dX5_firstThatHolds_11 ?_
      refine lv_iload_n hx hb dX5_firstThatHolds_14 rfl (lv_at hl 0 rfl) ?_
      refine va_iald hx hb hK hP 1 0 rfl rfl (i_in rfl (lg_X5_firstThatHolds_4 n_bk i_1 n1 yk hi1_0 hmu1 t_3)) dX5_firstThatHolds_15 ?_
      refine lv_topi (fun x_4 ex_5 => ?_)
      refine lv_bipush (v := 12) hx hb dX5_firstThatHolds_16 (by decide) ?_
      refine lv_icmp_ne (tgt := 25) hx hb dX5_firstThatHolds_18 (by decide) (fun c_6 => ?_) (fun c_6 => ?_)
      · have t_7 : ¬ x_4.toInt = (12 : Int) := i_ne rfl (by decide) c_6
        refine lv_iconst (v := 0) hx hb dX5_firstThatHolds_25 (by decide) ?_
        refine lv_iload_n hx hb dX5_firstThatHolds_26 rfl (lv_at hl 2 rfl) ?_
        refine lv_icmp_ne (tgt := 41) hx hb dX5_firstThatHolds_27 (by decide) (fun c_8 => ?_) (fun c_8 => ?_)
        · have t_9 : ¬ (0 : Int) = v1.toInt := i_ne (by decide) rfl c_8
          obtain ⟨x_10, ex_11⟩ : ∃ y : Int32, y = i_1 + Int32.ofInt 1 := ⟨_, rfl⟩
          have t_12 : x_10.toInt = i_1.toInt + 1 := i_add rfl (by decide) (lg_X5_firstThatHolds_5 n_bk v1 i_1 n1 x_4 yk hi1_0 hmu1 t_3 t_7 t_9) ex_11
          refine lv_iinc (v := x_10) (lv' := [(3, .int x_10), (0, .ref h0), (1, .int v1), (2, .ref a_fa)]) hx hb dX5_firstThatHolds_41 hl (k := 0) rfl ex_11.symm (by decide) rfl ?_
          clear hl; intro ls hl
          refine lv_goto (tgt := 2) hx hb dX5_firstThatHolds_44 (by decide) ?_
          exact ih1 x_10  H locs ls (lg_X5_firstThatHolds_6 n_bk v1 i_1 n1 x_4 x_10 yk hi1_0 hmu1 t_3 t_7 t_9 t_12) (lg_X5_firstThatHolds_7 n_bk v1 i_1 n1 x_4 x_10 yk hi1_0 hmu1 t_3 t_7 t_9 t_12)   (lv_sub hl [0, 1, 2, 3] rfl) (hP.sub [0, 1, 2, 3, 4, 5, 6] rfl) (hD.sub [0, 1, 2, 3, 4, 5, 6] (by decide) rfl) hS
        · have t_9 : (0 : Int) = v1.toInt := i_eq (by decide) rfl c_8
          refine lv_aload_n hx hb dX5_firstThatHolds_30 rfl (lv_at hl 1 rfl) ?_
          refine lv_iload_n hx hb dX5_firstThatHolds_31 rfl (lv_at hl 0 rfl) ?_
          refine lv_aload_n hx hb dX5_firstThatHolds_32 rfl (lv_at hl 3 rfl) ?_
          have hPc := hP.sub (ws' := [(h0, .inr (5, [.ref b_deed, .ref b_value, .ref b_tests, .ref b_thing, .ref b_sign, .ref b_number, .int n_bk])), (b_tests, .inl (k_tests, 16, .inl f_tests)), (b_thing, .inl (k_thing, 48, .inl f_thing)), (b_sign, .inl (k_sign, 48, .inl f_sign)), (b_number, .inl (k_number, 48, .inl f_number)), (a_fa, .inl (k_fa, 6, .inl f_fa))]) [0, 2, 3, 4, 5, 6] rfl
          have hDc := hD.sub (ws' := [(h0, .inr (5, [.ref b_deed, .ref b_value, .ref b_tests, .ref b_thing, .ref b_sign, .ref b_number, .int n_bk])), (b_tests, .inl (k_tests, 16, .inl f_tests)), (b_thing, .inl (k_thing, 48, .inl f_thing)), (b_sign, .inl (k_sign, 48, .inl f_sign)), (b_number, .inl (k_number, 48, .inl f_number)), (a_fa, .inl (k_fa, 6, .inl f_fa))]) [0, 2, 3, 4, 5, 6] (by decide) rfl
          have hKc := hK.sub (tys' := [(k_tests, .int), (k_thing, .int), (k_sign, .int), (k_number, .int), (k_fa, .int)]) [1, 2, 3, 4, 5] rfl
          have hFc := va_free (wc := [(h0, .inr (5, [.ref b_deed, .ref b_value, .ref b_tests, .ref b_thing, .ref b_sign, .ref b_number, .int n_bk])), (b_tests, .inl (k_tests, 16, .inl f_tests)), (b_thing, .inl (k_thing, 48, .inl f_thing)), (b_sign, .inl (k_sign, 48, .inl f_sign)), (b_number, .inl (k_number, 48, .inl f_number)), (a_fa, .inl (k_fa, 6, .inl f_fa))]) hD hS hA [0, 2, 3, 4, 5, 6] rfl
          refine va_calli (va_runV (C := RX5) (As := [.int i_1, .ref a_fa]) (rest := []) ⟨hx, hb, hml, hown, htb⟩ (kX5_allHold l dC dI H.size h0 b_deed b_value b_tests b_thing b_sign b_number n_bk k_tests k_thing k_sign k_number f_tests f_thing f_sign f_number a_fa k_fa f_fa i_1 yt (lg_X5_firstThatHolds_8 n_bk v1 i_1 n1 x_4 yk hi1_0 hmu1 t_3 t_7 t_9)) ⟨callB_of 2 htb (gd_c m_659) rfl rfl rfl (htb _ m_12) (htb _ m_656) hdX5_allHold ⟨(Nat.le_of_ble_eq_true rfl), (Nat.le_of_ble_eq_true rfl)⟩, htb _ m_658, htb _ ms_9⟩ ⟨pcW_blind, va_recv hKc hPc (ci := 5) (q0 := 0) rfl rfl, pcW_at hPc hKc hDc hN⟩ rfl rfl hl.1 rfl (lv_room (Nat.le_of_ble_eq_true rfl)) dX5_firstThatHolds_33 ⟨(Nat.le_of_ble_eq_true rfl), (Nat.le_of_ble_eq_true rfl)⟩) hS (fun q _ h => hFc q h) hFc (fun r_13 u t H1 locs1 ht hvm h_14 hB hz1 hk1 hS1 => ?_)
          obtain ⟨hP1, hK1, hD1⟩ := hB
          rw [ht] at hP1
          obtain ⟨hPn, hDn⟩ := va_join (wr := [(b_deed, .inl (k_deed, 16, .inl f_deed))]) (w1 := [(h0, .inr (5, [.ref b_deed, .ref b_value, .ref b_tests, .ref b_thing, .ref b_sign, .ref b_number, .int n_bk])), (b_tests, .inl (k_tests, 16, .inl f_tests)), (b_thing, .inl (k_thing, 48, .inl f_thing)), (b_sign, .inl (k_sign, 48, .inl f_sign)), (b_number, .inl (k_number, 48, .inl f_number)), (a_fa, .inl (k_fa, 6, .inl f_fa))]) hP hD [0, 2, 3, 4, 5, 6] [1] rfl rfl (by decide) (by decide) hk1 hFc hP1 hD1
          clear hP1 hD1 hK1
          clear hP hD hS hPc hDc hKc hFc hk1 hz1 ht hvm
          clear t
          revert hS1 hPn hDn; generalize H1 = H; generalize locs1 = locs; intro hS hP hD
          change va_P (dC, dI) vwCl [(b_deed, .inl (k_deed, 16, .inl f_deed)), (h0, .inr (5, [.ref b_deed, .ref b_value, .ref b_tests, .ref b_thing, .ref b_sign, .ref b_number, .int n_bk])), (b_tests, .inl (k_tests, 16, .inl f_tests)), (b_thing, .inl (k_thing, 48, .inl f_thing)), (b_sign, .inl (k_sign, 48, .inl f_sign)), (b_number, .inl (k_number, 48, .inl f_number)), (a_fa, .inl (k_fa, 6, .inl f_fa))] H at hP
          change va_D A [(b_deed, .inl (k_deed, 16, .inl f_deed)), (h0, .inr (5, [.ref b_deed, .ref b_value, .ref b_tests, .ref b_thing, .ref b_sign, .ref b_number, .int n_bk])), (b_tests, .inl (k_tests, 16, .inl f_tests)), (b_thing, .inl (k_thing, 48, .inl f_thing)), (b_sign, .inl (k_sign, 48, .inl f_sign)), (b_number, .inl (k_number, 48, .inl f_number)), (a_fa, .inl (k_fa, 6, .inl f_fa))] at hD
          rcases h_14 with ⟨rfl, h_14⟩ | ⟨rfl, h_14⟩
          · refine lv_if_eq (tgt := 41) hx hb dX5_firstThatHolds_36 (by decide) (fun c_15 => absurd c_15 (by decide)) ?_
            intro _
            refine lv_iload_n hx hb dX5_firstThatHolds_39 rfl (lv_at hl 0 rfl) ?_
            refine W.widen (k := 0) (n := 0) (Nat.le_of_ble_eq_true rfl) (Nat.le_of_ble_eq_true rfl) ?_
            have hP9 := hP.sub (ws' := [(h0, .inr (5, [.ref b_deed, .ref b_value, .ref b_tests, .ref b_thing, .ref b_sign, .ref b_number, .int n_bk])), (b_deed, .inl (k_deed, 16, .inl f_deed)), (b_tests, .inl (k_tests, 16, .inl f_tests)), (b_thing, .inl (k_thing, 48, .inl f_thing)), (b_sign, .inl (k_sign, 48, .inl f_sign)), (b_number, .inl (k_number, 48, .inl f_number)), (a_fa, .inl (k_fa, 6, .inl f_fa))]) [1, 0, 2, 3, 4, 5, 6] rfl
            have hD9 := hD.sub (ws' := [(h0, .inr (5, [.ref b_deed, .ref b_value, .ref b_tests, .ref b_thing, .ref b_sign, .ref b_number, .int n_bk])), (b_deed, .inl (k_deed, 16, .inl f_deed)), (b_tests, .inl (k_tests, 16, .inl f_tests)), (b_thing, .inl (k_thing, 48, .inl f_thing)), (b_sign, .inl (k_sign, 48, .inl f_sign)), (b_number, .inl (k_number, 48, .inl f_number)), (a_fa, .inl (k_fa, 6, .inl f_fa))]) [1, 0, 2, 3, 4, 5, 6] (by decide) rfl
            have hK9 := hK.sub (tys' := [(k_deed, .int), (k_tests, .int), (k_thing, .int), (k_sign, .int), (k_number, .int), (k_fa, .int)]) [0, 1, 2, 3, 4, 5] rfl
            exact W.iret (v := i_1) hx hb hr (fun t ht hW => ⟨⟨i_1, (), rfl, (lg_X5_firstThatHolds_9 n_bk v1 i_1 n1 x_4 yk hi1_0 hmu1 t_3 t_7 t_9 h_14), ⟨by rw [ht]; exact hP9, va_K.moved hW.alike hK9, hD9⟩⟩, hS.F ht⟩) hS.2.2 dX5_firstThatHolds_40
          · refine lv_if_eq (tgt := 41) hx hb dX5_firstThatHolds_36 (by decide) ?_ (fun c_16 => absurd (by decide) c_16)
            intro _
            obtain ⟨x_17, ex_18⟩ : ∃ y : Int32, y = i_1 + Int32.ofInt 1 := ⟨_, rfl⟩
            have t_19 : x_17.toInt = i_1.toInt + 1 := i_add rfl (by decide) (lg_X5_firstThatHolds_10 n_bk v1 i_1 n1 x_4 yk hi1_0 hmu1 t_3 t_7 t_9 h_14) ex_18
            refine lv_iinc (v := x_17) (lv' := [(3, .int x_17), (0, .ref h0), (1, .int v1), (2, .ref a_fa)]) hx hb dX5_firstThatHolds_41 hl (k := 0) rfl ex_18.symm (by decide) rfl ?_
            clear hl; intro ls hl
            refine lv_goto (tgt := 2) hx hb dX5_firstThatHolds_44 (by decide) ?_
            exact ih1 x_17  H locs ls (lg_X5_firstThatHolds_11 n_bk v1 i_1 n1 x_4 x_17 yk hi1_0 hmu1 t_3 t_7 t_9 h_14 t_19) (lg_X5_firstThatHolds_12 n_bk v1 i_1 n1 x_4 x_17 yk hi1_0 hmu1 t_3 t_7 t_9 h_14 t_19)   (lv_sub hl [0, 1, 2, 3] rfl) (hP.sub [1, 0, 2, 3, 4, 5, 6] rfl) (hD.sub [1, 0, 2, 3, 4, 5, 6] (by decide) rfl) hS
      · have t_7 : x_4.toInt = (12 : Int) := i_eq rfl (by decide) c_6
        refine lv_iconst (v := 1) hx hb dX5_firstThatHolds_21 (by decide) ?_
        refine lv_goto (tgt := 26) hx hb dX5_firstThatHolds_22 (by decide) ?_
        refine lv_iload_n hx hb dX5_firstThatHolds_26 rfl (lv_at hl 2 rfl) ?_
        refine lv_icmp_ne (tgt := 41) hx hb dX5_firstThatHolds_27 (by decide) (fun c_20 => ?_) (fun c_20 => ?_)
        · have t_21 : ¬ (1 : Int) = v1.toInt := i_ne (by decide) rfl c_20
          obtain ⟨x_22, ex_23⟩ : ∃ y : Int32, y = i_1 + Int32.ofInt 1 := ⟨_, rfl⟩
          have t_24 : x_22.toInt = i_1.toInt + 1 := i_add rfl (by decide) (lg_X5_firstThatHolds_13 n_bk v1 i_1 n1 x_4 yk hi1_0 hmu1 t_3 t_7 t_21) ex_23
          refine lv_iinc (v := x_22) (lv' := [(3, .int x_22), (0, .ref h0), (1, .int v1), (2, .ref a_fa)]) hx hb dX5_firstThatHolds_41 hl (k := 0) rfl ex_23.symm (by decide) rfl ?_
          clear hl; intro ls hl
          refine lv_goto (tgt := 2) hx hb dX5_firstThatHolds_44 (by decide) ?_
          exact ih1 x_22  H locs ls (lg_X5_firstThatHolds_14 n_bk v1 i_1 n1 x_4 x_22 yk hi1_0 hmu1 t_3 t_7 t_21 t_24) (lg_X5_firstThatHolds_15 n_bk v1 i_1 n1 x_4 x_22 yk hi1_0 hmu1 t_3 t_7 t_21 t_24)   (lv_sub hl [0, 1, 2, 3] rfl) (hP.sub [0, 1, 2, 3, 4, 5, 6] rfl) (hD.sub [0, 1, 2, 3, 4, 5, 6] (by decide) rfl) hS
        · have t_21 : (1 : Int) = v1.toInt := i_eq (by decide) rfl c_20
          refine lv_aload_n hx hb dX5_firstThatHolds_30 rfl (lv_at hl 1 rfl) ?_
          refine lv_iload_n hx hb dX5_firstThatHolds_31 rfl (lv_at hl 0 rfl) ?_
          refine lv_aload_n hx hb dX5_firstThatHolds_32 rfl (lv_at hl 3 rfl) ?_
          have hPc := hP.sub (ws' := [(h0, .inr (5, [.ref b_deed, .ref b_value, .ref b_tests, .ref b_thing, .ref b_sign, .ref b_number, .int n_bk])), (b_tests, .inl (k_tests, 16, .inl f_tests)), (b_thing, .inl (k_thing, 48, .inl f_thing)), (b_sign, .inl (k_sign, 48, .inl f_sign)), (b_number, .inl (k_number, 48, .inl f_number)), (a_fa, .inl (k_fa, 6, .inl f_fa))]) [0, 2, 3, 4, 5, 6] rfl
          have hDc := hD.sub (ws' := [(h0, .inr (5, [.ref b_deed, .ref b_value, .ref b_tests, .ref b_thing, .ref b_sign, .ref b_number, .int n_bk])), (b_tests, .inl (k_tests, 16, .inl f_tests)), (b_thing, .inl (k_thing, 48, .inl f_thing)), (b_sign, .inl (k_sign, 48, .inl f_sign)), (b_number, .inl (k_number, 48, .inl f_number)), (a_fa, .inl (k_fa, 6, .inl f_fa))]) [0, 2, 3, 4, 5, 6] (by decide) rfl
          have hKc := hK.sub (tys' := [(k_tests, .int), (k_thing, .int), (k_sign, .int), (k_number, .int), (k_fa, .int)]) [1, 2, 3, 4, 5] rfl
          have hFc := va_free (wc := [(h0, .inr (5, [.ref b_deed, .ref b_value, .ref b_tests, .ref b_thing, .ref b_sign, .ref b_number, .int n_bk])), (b_tests, .inl (k_tests, 16, .inl f_tests)), (b_thing, .inl (k_thing, 48, .inl f_thing)), (b_sign, .inl (k_sign, 48, .inl f_sign)), (b_number, .inl (k_number, 48, .inl f_number)), (a_fa, .inl (k_fa, 6, .inl f_fa))]) hD hS hA [0, 2, 3, 4, 5, 6] rfl
          refine va_calli (va_runV (C := RX5) (As := [.int i_1, .ref a_fa]) (rest := []) ⟨hx, hb, hml, hown, htb⟩ (kX5_allHold l dC dI H.size h0 b_deed b_value b_tests b_thing b_sign b_number n_bk k_tests k_thing k_sign k_number f_tests f_thing f_sign f_number a_fa k_fa f_fa i_1 yt (lg_X5_firstThatHolds_16 n_bk v1 i_1 n1 x_4 yk hi1_0 hmu1 t_3 t_7 t_21)) ⟨callB_of 2 htb (gd_c m_659) rfl rfl rfl (htb _ m_12) (htb _ m_656) hdX5_allHold ⟨(Nat.le_of_ble_eq_true rfl), (Nat.le_of_ble_eq_true rfl)⟩, htb _ m_658, htb _ ms_9⟩ ⟨pcW_blind, va_recv hKc hPc (ci := 5) (q0 := 0) rfl rfl, pcW_at hPc hKc hDc hN⟩ rfl rfl hl.1 rfl (lv_room (Nat.le_of_ble_eq_true rfl)) dX5_firstThatHolds_33 ⟨(Nat.le_of_ble_eq_true rfl), (Nat.le_of_ble_eq_true rfl)⟩) hS (fun q _ h => hFc q h) hFc (fun r_25 u t H1 locs1 ht hvm h_26 hB hz1 hk1 hS1 => ?_)
          obtain ⟨hP1, hK1, hD1⟩ := hB
          rw [ht] at hP1
          obtain ⟨hPn, hDn⟩ := va_join (wr := [(b_deed, .inl (k_deed, 16, .inl f_deed))]) (w1 := [(h0, .inr (5, [.ref b_deed, .ref b_value, .ref b_tests, .ref b_thing, .ref b_sign, .ref b_number, .int n_bk])), (b_tests, .inl (k_tests, 16, .inl f_tests)), (b_thing, .inl (k_thing, 48, .inl f_thing)), (b_sign, .inl (k_sign, 48, .inl f_sign)), (b_number, .inl (k_number, 48, .inl f_number)), (a_fa, .inl (k_fa, 6, .inl f_fa))]) hP hD [0, 2, 3, 4, 5, 6] [1] rfl rfl (by decide) (by decide) hk1 hFc hP1 hD1
          clear hP1 hD1 hK1
          clear hP hD hS hPc hDc hKc hFc hk1 hz1 ht hvm
          clear t
          revert hS1 hPn hDn; generalize H1 = H; generalize locs1 = locs; intro hS hP hD
          change va_P (dC, dI) vwCl [(b_deed, .inl (k_deed, 16, .inl f_deed)), (h0, .inr (5, [.ref b_deed, .ref b_value, .ref b_tests, .ref b_thing, .ref b_sign, .ref b_number, .int n_bk])), (b_tests, .inl (k_tests, 16, .inl f_tests)), (b_thing, .inl (k_thing, 48, .inl f_thing)), (b_sign, .inl (k_sign, 48, .inl f_sign)), (b_number, .inl (k_number, 48, .inl f_number)), (a_fa, .inl (k_fa, 6, .inl f_fa))] H at hP
          change va_D A [(b_deed, .inl (k_deed, 16, .inl f_deed)), (h0, .inr (5, [.ref b_deed, .ref b_value, .ref b_tests, .ref b_thing, .ref b_sign, .ref b_number, .int n_bk])), (b_tests, .inl (k_tests, 16, .inl f_tests)), (b_thing, .inl (k_thing, 48, .inl f_thing)), (b_sign, .inl (k_sign, 48, .inl f_sign)), (b_number, .inl (k_number, 48, .inl f_number)), (a_fa, .inl (k_fa, 6, .inl f_fa))] at hD
          rcases h_26 with ⟨rfl, h_26⟩ | ⟨rfl, h_26⟩
          · refine lv_if_eq (tgt := 41) hx hb dX5_firstThatHolds_36 (by decide) (fun c_27 => absurd c_27 (by decide)) ?_
            intro _
            refine lv_iload_n hx hb dX5_firstThatHolds_39 rfl (lv_at hl 0 rfl) ?_
            refine W.widen (k := 0) (n := 0) (Nat.le_of_ble_eq_true rfl) (Nat.le_of_ble_eq_true rfl) ?_
            have hP9 := hP.sub (ws' := [(h0, .inr (5, [.ref b_deed, .ref b_value, .ref b_tests, .ref b_thing, .ref b_sign, .ref b_number, .int n_bk])), (b_deed, .inl (k_deed, 16, .inl f_deed)), (b_tests, .inl (k_tests, 16, .inl f_tests)), (b_thing, .inl (k_thing, 48, .inl f_thing)), (b_sign, .inl (k_sign, 48, .inl f_sign)), (b_number, .inl (k_number, 48, .inl f_number)), (a_fa, .inl (k_fa, 6, .inl f_fa))]) [1, 0, 2, 3, 4, 5, 6] rfl
            have hD9 := hD.sub (ws' := [(h0, .inr (5, [.ref b_deed, .ref b_value, .ref b_tests, .ref b_thing, .ref b_sign, .ref b_number, .int n_bk])), (b_deed, .inl (k_deed, 16, .inl f_deed)), (b_tests, .inl (k_tests, 16, .inl f_tests)), (b_thing, .inl (k_thing, 48, .inl f_thing)), (b_sign, .inl (k_sign, 48, .inl f_sign)), (b_number, .inl (k_number, 48, .inl f_number)), (a_fa, .inl (k_fa, 6, .inl f_fa))]) [1, 0, 2, 3, 4, 5, 6] (by decide) rfl
            have hK9 := hK.sub (tys' := [(k_deed, .int), (k_tests, .int), (k_thing, .int), (k_sign, .int), (k_number, .int), (k_fa, .int)]) [0, 1, 2, 3, 4, 5] rfl
            exact W.iret (v := i_1) hx hb hr (fun t ht hW => ⟨⟨i_1, (), rfl, (lg_X5_firstThatHolds_17 n_bk v1 i_1 n1 x_4 yk hi1_0 hmu1 t_3 t_7 t_21 h_26), ⟨by rw [ht]; exact hP9, va_K.moved hW.alike hK9, hD9⟩⟩, hS.F ht⟩) hS.2.2 dX5_firstThatHolds_40
          · refine lv_if_eq (tgt := 41) hx hb dX5_firstThatHolds_36 (by decide) ?_ (fun c_28 => absurd (by decide) c_28)
            intro _
            obtain ⟨x_29, ex_30⟩ : ∃ y : Int32, y = i_1 + Int32.ofInt 1 := ⟨_, rfl⟩
            have t_31 : x_29.toInt = i_1.toInt + 1 := i_add rfl (by decide) (lg_X5_firstThatHolds_18 n_bk v1 i_1 n1 x_4 yk hi1_0 hmu1 t_3 t_7 t_21 h_26) ex_30
            refine lv_iinc (v := x_29) (lv' := [(3, .int x_29), (0, .ref h0), (1, .int v1), (2, .ref a_fa)]) hx hb dX5_firstThatHolds_41 hl (k := 0) rfl ex_30.symm (by decide) rfl ?_
            clear hl; intro ls hl
            refine lv_goto (tgt := 2) hx hb dX5_firstThatHolds_44 (by decide) ?_
            exact ih1 x_29  H locs ls (lg_X5_firstThatHolds_19 n_bk v1 i_1 n1 x_4 x_29 yk hi1_0 hmu1 t_3 t_7 t_21 h_26 t_31) (lg_X5_firstThatHolds_20 n_bk v1 i_1 n1 x_4 x_29 yk hi1_0 hmu1 t_3 t_7 t_21 h_26 t_31)   (lv_sub hl [0, 1, 2, 3] rfl) (hP.sub [1, 0, 2, 3, 4, 5, 6] rfl) (hD.sub [1, 0, 2, 3, 4, 5, 6] (by decide) rfl) hS

theorem lg_X1_share_0 (r_1 : Int32) (h_2 : True) (t_4 : (0 : Int) < r_1.toInt) : (10 - (0 : Int)) < ((Int.toNat (10 - (0 : Int)) + 1 : Nat) : Int) := by
  have := rg_rng r_1; omega
theorem lg_X1_share_1 (r_1 : Int32) (h_2 : True) (t_4 : (0 : Int) < r_1.toInt) : 0 ≤ (0 : Int) ∧ (0 : Int) ≤ 10 := by
  have := rg_rng r_1; omega
theorem lg_X1_share_2 (r_1 : Int32) (i_5 : Int32) (h_2 : True) (t_4 : (0 : Int) < r_1.toInt) (hi5_0 : 0 ≤ i_5.toInt ∧ i_5.toInt ≤ 10) (hmu5 : (10 - i_5.toInt) < ((0 : Nat) : Int)) : False := by
  have := rg_rng r_1; have := rg_rng i_5; omega
theorem lg_X1_share_3 (r_1 : Int32) (i_5 : Int32) (n5 : Nat) (h_2 : True) (t_4 : (0 : Int) < r_1.toInt) (hi5_0 : 0 ≤ i_5.toInt ∧ i_5.toInt ≤ 10) (hmu5 : (10 - i_5.toInt) < ((n5 + 1 : Nat) : Int)) (t_7 : (10 : Int) ≤ i_5.toInt) : (10 - (0 : Int)) < ((Int.toNat (10 - (0 : Int)) + 1 : Nat) : Int) := by
  have := rg_rng r_1; have := rg_rng i_5; omega
theorem lg_X1_share_4 (r_1 : Int32) (i_5 : Int32) (n5 : Nat) (h_2 : True) (t_4 : (0 : Int) < r_1.toInt) (hi5_0 : 0 ≤ i_5.toInt ∧ i_5.toInt ≤ 10) (hmu5 : (10 - i_5.toInt) < ((n5 + 1 : Nat) : Int)) (t_7 : (10 : Int) ≤ i_5.toInt) : 0 ≤ (0 : Int) ∧ (0 : Int) ≤ 10 := by
  have := rg_rng r_1; have := rg_rng i_5; omega
theorem lg_X1_share_5 (r_1 : Int32) (i_5 : Int32) (n5 : Nat) (i_8 : Int32) (h_2 : True) (t_4 : (0 : Int) < r_1.toInt) (hi5_0 : 0 ≤ i_5.toInt ∧ i_5.toInt ≤ 10) (hmu5 : (10 - i_5.toInt) < ((n5 + 1 : Nat) : Int)) (t_7 : (10 : Int) ≤ i_5.toInt) (hi8_0 : 0 ≤ i_8.toInt ∧ i_8.toInt ≤ 10) (hmu8 : (10 - i_8.toInt) < ((0 : Nat) : Int)) : False := by
  have := rg_rng r_1; have := rg_rng i_5; have := rg_rng i_8; omega
theorem lg_X1_share_6 (r_1 : Int32) (i_5 : Int32) (n5 : Nat) (i_8 : Int32) (o_8 : Int32) (n8 : Nat) (r_13 : Int32) (h_2 : True) (t_4 : (0 : Int) < r_1.toInt) (hi5_0 : 0 ≤ i_5.toInt ∧ i_5.toInt ≤ 10) (hmu5 : (10 - i_5.toInt) < ((n5 + 1 : Nat) : Int)) (t_7 : (10 : Int) ≤ i_5.toInt) (hi8_0 : 0 ≤ i_8.toInt ∧ i_8.toInt ≤ 10) (hmu8 : (10 - i_8.toInt) < ((n8 + 1 : Nat) : Int)) (t_10 : i_8.toInt < (10 : Int)) (t_12 : (0 : Int) < o_8.toInt) (h_14 : 0 ≤ r_13.toInt ∧ r_13.toInt ≤ 9) : 0 ≤ r_13.toInt ∧ r_13.toInt < ((10 : Nat) : Int) := by
  have := rg_rng r_1; have := rg_rng i_5; have := rg_rng i_8; have := rg_rng o_8; have := rg_rng r_13; omega
theorem lg_X1_share_7 (r_1 : Int32) (i_5 : Int32) (n5 : Nat) (i_8 : Int32) (o_8 : Int32) (n8 : Nat) (r_13 : Int32) (h_2 : True) (t_4 : (0 : Int) < r_1.toInt) (hi5_0 : 0 ≤ i_5.toInt ∧ i_5.toInt ≤ 10) (hmu5 : (10 - i_5.toInt) < ((n5 + 1 : Nat) : Int)) (t_7 : (10 : Int) ≤ i_5.toInt) (hi8_0 : 0 ≤ i_8.toInt ∧ i_8.toInt ≤ 10) (hmu8 : (10 - i_8.toInt) < ((n8 + 1 : Nat) : Int)) (t_10 : i_8.toInt < (10 : Int)) (t_12 : (0 : Int) < o_8.toInt) (h_14 : 0 ≤ r_13.toInt ∧ r_13.toInt ≤ 9) : -2147483648 ≤ i_8.toInt + 1 ∧ i_8.toInt + 1 < 2147483648 := by
  have := rg_rng r_1; have := rg_rng i_5; have := rg_rng i_8; have := rg_rng o_8; have := rg_rng r_13; omega
theorem lg_X1_share_8 (r_1 : Int32) (i_5 : Int32) (n5 : Nat) (i_8 : Int32) (o_8 : Int32) (n8 : Nat) (r_13 : Int32) (x_25 : Int32) (h_2 : True) (t_4 : (0 : Int) < r_1.toInt) (hi5_0 : 0 ≤ i_5.toInt ∧ i_5.toInt ≤ 10) (hmu5 : (10 - i_5.toInt) < ((n5 + 1 : Nat) : Int)) (t_7 : (10 : Int) ≤ i_5.toInt) (hi8_0 : 0 ≤ i_8.toInt ∧ i_8.toInt ≤ 10) (hmu8 : (10 - i_8.toInt) < ((n8 + 1 : Nat) : Int)) (t_10 : i_8.toInt < (10 : Int)) (t_12 : (0 : Int) < o_8.toInt) (h_14 : 0 ≤ r_13.toInt ∧ r_13.toInt ≤ 9) (t_27 : x_25.toInt = i_8.toInt + 1) : (10 - x_25.toInt) < (n8 : Int) := by
  have := rg_rng r_1; have := rg_rng i_5; have := rg_rng i_8; have := rg_rng o_8; have := rg_rng r_13; have := rg_rng x_25; omega
theorem lg_X1_share_9 (r_1 : Int32) (i_5 : Int32) (n5 : Nat) (i_8 : Int32) (o_8 : Int32) (n8 : Nat) (r_13 : Int32) (x_25 : Int32) (h_2 : True) (t_4 : (0 : Int) < r_1.toInt) (hi5_0 : 0 ≤ i_5.toInt ∧ i_5.toInt ≤ 10) (hmu5 : (10 - i_5.toInt) < ((n5 + 1 : Nat) : Int)) (t_7 : (10 : Int) ≤ i_5.toInt) (hi8_0 : 0 ≤ i_8.toInt ∧ i_8.toInt ≤ 10) (hmu8 : (10 - i_8.toInt) < ((n8 + 1 : Nat) : Int)) (t_10 : i_8.toInt < (10 : Int)) (t_12 : (0 : Int) < o_8.toInt) (h_14 : 0 ≤ r_13.toInt ∧ r_13.toInt ≤ 9) (t_27 : x_25.toInt = i_8.toInt + 1) : 0 ≤ x_25.toInt ∧ x_25.toInt ≤ 10 := by
  have := rg_rng r_1; have := rg_rng i_5; have := rg_rng i_8; have := rg_rng o_8; have := rg_rng r_13; have := rg_rng x_25; omega
theorem lg_X1_share_10 (r_1 : Int32) (i_5 : Int32) (n5 : Nat) (h_2 : True) (t_4 : (0 : Int) < r_1.toInt) (hi5_0 : 0 ≤ i_5.toInt ∧ i_5.toInt ≤ 10) (hmu5 : (10 - i_5.toInt) < ((n5 + 1 : Nat) : Int)) (t_7 : i_5.toInt < (10 : Int)) : 0 ≤ i_5.toInt ∧ i_5.toInt < ((10 : Nat) : Int) := by
  have := rg_rng r_1; have := rg_rng i_5; omega
theorem lg_X1_share_11 (r_1 : Int32) (i_5 : Int32) (n5 : Nat) (h_2 : True) (t_4 : (0 : Int) < r_1.toInt) (hi5_0 : 0 ≤ i_5.toInt ∧ i_5.toInt ≤ 10) (hmu5 : (10 - i_5.toInt) < ((n5 + 1 : Nat) : Int)) (t_7 : i_5.toInt < (10 : Int)) : ¬ r_1.toInt = 0 := by
  have := rg_rng r_1; have := rg_rng i_5; omega
theorem lg_X1_share_12 (r_1 : Int32) (i_5 : Int32) (n5 : Nat) (h_2 : True) (t_4 : (0 : Int) < r_1.toInt) (hi5_0 : 0 ≤ i_5.toInt ∧ i_5.toInt ≤ 10) (hmu5 : (10 - i_5.toInt) < ((n5 + 1 : Nat) : Int)) (t_7 : i_5.toInt < (10 : Int)) : -2147483648 ≤ i_5.toInt + 1 ∧ i_5.toInt + 1 < 2147483648 := by
  have := rg_rng r_1; have := rg_rng i_5; omega
theorem lg_X1_share_13 (r_1 : Int32) (i_5 : Int32) (n5 : Nat) (x_56 : Int32) (h_2 : True) (t_4 : (0 : Int) < r_1.toInt) (hi5_0 : 0 ≤ i_5.toInt ∧ i_5.toInt ≤ 10) (hmu5 : (10 - i_5.toInt) < ((n5 + 1 : Nat) : Int)) (t_7 : i_5.toInt < (10 : Int)) (t_58 : x_56.toInt = i_5.toInt + 1) : (10 - x_56.toInt) < (n5 : Int) := by
  have := rg_rng r_1; have := rg_rng i_5; have := rg_rng x_56; omega
theorem lg_X1_share_14 (r_1 : Int32) (i_5 : Int32) (n5 : Nat) (x_56 : Int32) (h_2 : True) (t_4 : (0 : Int) < r_1.toInt) (hi5_0 : 0 ≤ i_5.toInt ∧ i_5.toInt ≤ 10) (hmu5 : (10 - i_5.toInt) < ((n5 + 1 : Nat) : Int)) (t_7 : i_5.toInt < (10 : Int)) (t_58 : x_56.toInt = i_5.toInt + 1) : 0 ≤ x_56.toInt ∧ x_56.toInt ≤ 10 := by
  have := rg_rng r_1; have := rg_rng i_5; have := rg_rng x_56; omega
set_option maxHeartbeats 4000000 in
set_option maxRecDepth 100000 in
theorem kX1_share (l : Launch) (dC : Nat → ClassId) (dI : Nat → Nat → Nat) (sz : Nat) (h0 : Nat) (o_came : Nat) (o_coins : Nat) (o_rem : Nat) (k_came : ClassId) (k_coins : ClassId) (k_rem : ClassId) (f_came : Nat → Int32) (f_coins : Nat → Int32) (f_rem : Nat → Int64) (v1 : Int32) : Met l yX1_share (Cond.code yX1_share cX1_share 8 none :: bg) ({ frames := 1, cells := 0, slots := 0, locals := 22 }) (pcW dC dI [.ref h0, .int v1] sz [(h0, .inr (1, [.ref o_came, .ref o_coins, .ref o_rem])), (o_came, .inl (k_came, 10, .inl f_came)), (o_coins, .inl (k_coins, 10, .inl f_coins)), (o_rem, .inl (k_rem, 10, .inr (.inl f_rem)))] [(k_came, .int), (k_coins, .int), (k_rem, .long)]) (va_Qv (fun (u : Unit) => True) (fun (u : Unit) (t : State) => ∃ (w_coins : Nat → Int32) (w_rem : Nat → Int64), va_P (dC, dI) vwCl [(h0, .inr (1, [.ref o_came, .ref o_coins, .ref o_rem])), (o_came, .inl (k_came, 10, .inl f_came)), (o_coins, .inl (k_coins, 10, .inl w_coins)), (o_rem, .inl (k_rem, 10, .inr (.inl w_rem)))] t.heap ∧ va_K (dC, dI) vwCl [] t ∧ va_D (va_A [(h0, .inr (1, [.ref o_came, .ref o_coins, .ref o_rem])), (o_came, .inl (k_came, 10, .inl f_came)), (o_coins, .inl (k_coins, 10, .inl f_coins)), (o_rem, .inl (k_rem, 10, .inr (.inl f_rem)))] sz) [(h0, .inr (1, [.ref o_came, .ref o_coins, .ref o_rem])), (o_came, .inl (k_came, 10, .inl f_came)), (o_coins, .inl (k_coins, 10, .inl w_coins)), (o_rem, .inl (k_rem, 10, .inr (.inl w_rem)))]) (va_A [(h0, .inr (1, [.ref o_came, .ref o_coins, .ref o_rem])), (o_came, .inl (k_came, 10, .inl f_came)), (o_coins, .inl (k_coins, 10, .inl f_coins)), (o_rem, .inl (k_rem, 10, .inr (.inl f_rem)))] sz)) 0 0 (va_A [(h0, .inr (1, [.ref o_came, .ref o_coins, .ref o_rem])), (o_came, .inl (k_came, 10, .inl f_came)), (o_coins, .inl (k_coins, 10, .inl f_coins)), (o_rem, .inl (k_rem, 10, .inr (.inl f_rem)))] sz) := by
  refine Met.ofW (cc := cX1_share) (maxL := 8) (ret := none) pnX1 rfl ?_
  intro p e s m args below meth c s₁ B hml hv
  obtain ⟨rfl, hsz, hP, hK, hD0, hN⟩ := hv
  have hx := B.exec
  have hb := B.bytes
  have hr := B.returns
  have htb : ∀ w ∈ bg, w.before [.ref h0, .int v1].toArray s = true := fun w h => atoms_spec (ws := Cond.code yX1_share cX1_share 8 none :: bg) B.pre w (List.mem_cons_of_mem _ h)
  have hown : s.vm.findClass RX1 = some m.cls := findClass_of_methodNamed B.named
  have hlocks := B.notSynchronized
  subst hsz
  have hD := hD0.self (sz := s.heap.size)
  generalize hAe : va_A [(h0, .inr (1, [.ref o_came, .ref o_coins, .ref o_rem])), (o_came, .inl (k_came, 10, .inl f_came)), (o_coins, .inl (k_coins, 10, .inl f_coins)), (o_rem, .inl (k_rem, 10, .inr (.inl f_rem)))] s.heap.size = A at hD ⊢
  have hA : ∀ q : Nat, s.heap.size ≤ q → A q := fun q h => by rw [← hAe]; exact Or.inr h
  have hS : va_S A s.heap s.heap [] := va_S.rf
  have hl := lv_entry ([.ref h0, .int v1]) (n := 8) (Nat.le_of_ble_eq_true rfl)
  rw [lg_entry_eq]
  generalize (lg_sl ([.ref h0, .int v1]) ++ List.replicate (8 - (lg_sl ([.ref h0, .int v1])).length) Slot.unset).toArray = ls at hl ⊢
  change lv_has ls 8 [(0, .ref h0), (1, .int v1)] at hl
  clear hD0 hAe
  refine go0 (wsP := fun H => va_P (dC, dI) vwCl [(h0, .inr (1, [.ref o_came, .ref o_coins, .ref o_rem])), (o_came, .inl (k_came, 10, .inl f_came)), (o_coins, .inl (k_coins, 10, .inl f_coins)), (o_rem, .inl (k_rem, 10, .inr (.inl f_rem)))] H) hP hS ?_
  clear hP hS; intro H locs hP hS
  change va_P (dC, dI) vwCl [(h0, .inr (1, [.ref o_came, .ref o_coins, .ref o_rem])), (o_came, .inl (k_came, 10, .inl f_came)), (o_coins, .inl (k_coins, 10, .inl f_coins)), (o_rem, .inl (k_rem, 10, .inr (.inl f_rem)))] H at hP
  refine lv_aload_n hx hb dX1_share_0 rfl (lv_at hl 0 rfl) ?_
  have hPc := hP.sub (ws' := [(h0, .inr (1, [.ref o_came, .ref o_coins, .ref o_rem])), (o_came, .inl (k_came, 10, .inl f_came))]) [0, 1] rfl
  have hDc := hD.sub (ws' := [(h0, .inr (1, [.ref o_came, .ref o_coins, .ref o_rem])), (o_came, .inl (k_came, 10, .inl f_came))]) [0, 1] (by decide) rfl
  have hKc := hK.sub (tys' := [(k_came, .int)]) [0] rfl
  have hFc := va_free (wc := [(h0, .inr (1, [.ref o_came, .ref o_coins, .ref o_rem])), (o_came, .inl (k_came, 10, .inl f_came))]) hD hS hA [0, 1] rfl
  refine va_calli (va_runV (C := RX1) (As := []) (rest := []) ⟨hx, hb, hml, hown, htb⟩ (kX1_cameTogether l dC dI H.size h0 o_came o_coins o_rem k_came f_came ) ⟨callB_of 0 htb (gd_c m_757) rfl rfl rfl (htb _ m_9) (htb _ m_774) hdX1_cameTogether ⟨(Nat.le_of_ble_eq_true rfl), (Nat.le_of_ble_eq_true rfl)⟩, htb _ m_755, htb _ m_756⟩ ⟨pcW_blind, va_recv hKc hPc (ci := 1) (q0 := 0) rfl rfl, pcW_at hPc hKc hDc hN⟩ rfl rfl hl.1 rfl (lv_room (Nat.le_of_ble_eq_true rfl)) dX1_share_1 ⟨(Nat.le_of_ble_eq_true rfl), (Nat.le_of_ble_eq_true rfl)⟩) hS (fun q _ h => hFc q h) hFc (fun r_1 u t H1 locs1 ht hvm h_2 hB hz1 hk1 hS1 => ?_)
  obtain ⟨hP1, hK1, hD1⟩ := hB
  rw [ht] at hP1
  obtain ⟨hPn, hDn⟩ := va_join (wr := [(o_coins, .inl (k_coins, 10, .inl f_coins)), (o_rem, .inl (k_rem, 10, .inr (.inl f_rem)))]) (w1 := [(h0, .inr (1, [.ref o_came, .ref o_coins, .ref o_rem])), (o_came, .inl (k_came, 10, .inl f_came))]) hP hD [0, 1] [2, 3] rfl rfl (by decide) (by decide) hk1 hFc hP1 hD1
  clear hP1 hD1 hK1
  clear hP hD hS hPc hDc hKc hFc hk1 hz1 ht hvm
  clear t
  revert hS1 hPn hDn; generalize H1 = H; generalize locs1 = locs; intro hS hP hD
  change va_P (dC, dI) vwCl [(o_coins, .inl (k_coins, 10, .inl f_coins)), (o_rem, .inl (k_rem, 10, .inr (.inl f_rem))), (h0, .inr (1, [.ref o_came, .ref o_coins, .ref o_rem])), (o_came, .inl (k_came, 10, .inl f_came))] H at hP
  change va_D A [(o_coins, .inl (k_coins, 10, .inl f_coins)), (o_rem, .inl (k_rem, 10, .inr (.inl f_rem))), (h0, .inr (1, [.ref o_came, .ref o_coins, .ref o_rem])), (o_came, .inl (k_came, 10, .inl f_came))] at hD
  refine lv_istore_n (lv' := [(2, .int r_1), (0, .ref h0), (1, .int v1)]) hx hb dX1_share_4 rfl hl (by decide) rfl ?_
  clear hl; intro ls hl
  refine lv_iload_n hx hb dX1_share_5 rfl (lv_at hl 0 rfl) ?_
  refine lv_if_gt (tgt := 10) hx hb dX1_share_6 (by decide) (fun c_3 => ?_) (fun c_3 => ?_)
  · have t_4 : (0 : Int) < r_1.toInt := i_lt (by decide) rfl c_3
    refine lv_iload_n hx hb dX1_share_10 rfl (lv_at hl 2 rfl) ?_
    refine lv_istore_n (lv' := [(3, .int v1), (2, .int r_1), (0, .ref h0), (1, .int v1)]) hx hb dX1_share_11 rfl hl (by decide) rfl ?_
    clear hl; intro ls hl
    refine lv_iconst (v := 0) hx hb dX1_share_12 (by decide) ?_
    refine lv_istore (lv' := [(4, .int 0), (3, .int v1), (2, .int r_1), (0, .ref h0), (1, .int v1)]) hx hb dX1_share_13 hl (by decide) rfl ?_
    clear hl; intro ls hl
    refine (fun (lp : ∀ (n5 : Nat) (i_5 : Int32) (o_5 : Int32) (ga_o_coins_5 : Nat → Int32) (ga_o_rem_5 : Nat → Int64) (H : Heap) (locs : List Loc) (ls : Array Slot), (10 - i_5.toInt) < (n5 : Int) → (0 ≤ i_5.toInt ∧ i_5.toInt ≤ 10) → lv_has ls 8 [(4, .int i_5), (3, .int o_5), (2, .int r_1), (0, .ref h0), (1, .int v1)] → va_P (dC, dI) vwCl [(o_coins, .inl (k_coins, 10, .inl ga_o_coins_5)), (o_rem, .inl (k_rem, 10, .inr (.inl ga_o_rem_5))), (h0, .inr (1, [.ref o_came, .ref o_coins, .ref o_rem])), (o_came, .inl (k_came, 10, .inl f_came))] H → va_D A [(o_coins, .inl (k_coins, 10, .inl ga_o_coins_5)), (o_rem, .inl (k_rem, 10, .inr (.inl ga_o_rem_5))), (h0, .inr (1, [.ref o_came, .ref o_coins, .ref o_rem])), (o_came, .inl (k_came, 10, .inl f_came))] → va_S A s.heap H locs → W p l e _ s m _ below meth c H locs _ _ _ (F0 m 15 ls [])) => lp (Int.toNat (10 - (0 : Int)) + 1) 0 v1  f_coins f_rem H locs ls ((lg_X1_share_0 r_1 h_2 t_4)) (lg_X1_share_1 r_1 h_2 t_4)   hl hP hD hS) ?_
    clear hP hD hS hl
    intro n5
    induction n5 with
    | zero =>
      intro i_5 o_5 ga_o_coins_5 ga_o_rem_5 H locs ls hmu5 hi5_0   hl hP hD hS
      exact False.elim (lg_X1_share_2 r_1 i_5 h_2 t_4 hi5_0 hmu5)
    | succ n5 ih5 =>
      intro i_5 o_5 ga_o_coins_5 ga_o_rem_5 H locs ls hmu5 hi5_0   hl hP hD hS
      refine lv_iload hx hb dX1_share_15 (lv_at hl 0 rfl) ?_
      refine lv_bipush (v := 10) hx hb dX1_share_17 (by decide) ?_
      refine lv_icmp_ge (tgt := 78) hx hb dX1_share_19 (by decide) (fun c_6 => ?_) (fun c_6 => ?_)
      · have t_7 : (10 : Int) ≤ i_5.toInt := i_le (by decide) rfl c_6
        refine lv_iconst (v := 0) hx hb dX1_share_78 (by decide) ?_
        refine lv_istore (lv' := [(4, .int 0), (3, .int o_5), (2, .int r_1), (0, .ref h0), (1, .int v1)]) hx hb dX1_share_79 hl (by decide) rfl ?_
        clear hl; intro ls hl
        refine (fun (lp : ∀ (n8 : Nat) (i_8 : Int32) (o_8 : Int32) (ga_o_coins_8 : Nat → Int32) (ga_o_rem_8 : Nat → Int64) (H : Heap) (locs : List Loc) (ls : Array Slot), (10 - i_8.toInt) < (n8 : Int) → (0 ≤ i_8.toInt ∧ i_8.toInt ≤ 10) → lv_has ls 8 [(4, .int i_8), (3, .int o_8), (2, .int r_1), (0, .ref h0), (1, .int v1)] → va_P (dC, dI) vwCl [(o_coins, .inl (k_coins, 10, .inl ga_o_coins_8)), (o_rem, .inl (k_rem, 10, .inr (.inl ga_o_rem_8))), (h0, .inr (1, [.ref o_came, .ref o_coins, .ref o_rem])), (o_came, .inl (k_came, 10, .inl f_came))] H → va_D A [(o_coins, .inl (k_coins, 10, .inl ga_o_coins_8)), (o_rem, .inl (k_rem, 10, .inr (.inl ga_o_rem_8))), (h0, .inr (1, [.ref o_came, .ref o_coins, .ref o_rem])), (o_came, .inl (k_came, 10, .inl f_came))] → va_S A s.heap H locs → W p l e _ s m _ below meth c H locs _ _ _ (F0 m 81 ls [])) => lp (Int.toNat (10 - (0 : Int)) + 1) 0 o_5  ga_o_coins_5 ga_o_rem_5 H locs ls ((lg_X1_share_3 r_1 i_5 n5 h_2 t_4 hi5_0 hmu5 t_7)) (lg_X1_share_4 r_1 i_5 n5 h_2 t_4 hi5_0 hmu5 t_7)   hl hP hD hS) ?_
        clear hP hD hS hl
        intro n8
        induction n8 with
        | zero =>
          intro i_8 o_8 ga_o_coins_8 ga_o_rem_8 H locs ls hmu8 hi8_0   hl hP hD hS
          exact False.elim (lg_X1_share_5 r_1 i_5 n5 i_8 h_2 t_4 hi5_0 hmu5 t_7 hi8_0 hmu8)
        | succ n8 ih8 =>
          intro i_8 o_8 ga_o_coins_8 ga_o_rem_8 H locs ls hmu8 hi8_0   hl hP hD hS
          refine lv_iload hx hb dX1_share_81 (lv_at hl 0 rfl) ?_
          refine lv_bipush (v := 10) hx hb dX1_share_83 (by decide) ?_
          refine lv_icmp_ge (tgt := 126) hx hb dX1_share_85 (by decide) (fun c_9 => ?_) (fun c_9 => ?_)
          · have t_10 : (10 : Int) ≤ i_8.toInt := i_le (by decide) rfl c_9
            refine W.widen (k := 0) (n := 0) (Nat.le_of_ble_eq_true rfl) (Nat.le_of_ble_eq_true rfl) ?_
            have hP9 := hP.sub (ws' := [(h0, .inr (1, [.ref o_came, .ref o_coins, .ref o_rem])), (o_came, .inl (k_came, 10, .inl f_came)), (o_coins, .inl (k_coins, 10, .inl ga_o_coins_8)), (o_rem, .inl (k_rem, 10, .inr (.inl ga_o_rem_8)))]) [2, 3, 0, 1] rfl
            have hD9 := hD.sub (ws' := [(h0, .inr (1, [.ref o_came, .ref o_coins, .ref o_rem])), (o_came, .inl (k_came, 10, .inl f_came)), (o_coins, .inl (k_coins, 10, .inl ga_o_coins_8)), (o_rem, .inl (k_rem, 10, .inr (.inl ga_o_rem_8)))]) [2, 3, 0, 1] (by decide) rfl
            have hK9 := hK.sub (tys' := []) [] rfl
            exact W.vret hx hb hr (fun t ht hW => ⟨⟨(), rfl, trivial, ⟨ga_o_coins_8, ga_o_rem_8, by rw [ht]; exact hP9, va_K.moved hW.alike hK9, hD9⟩⟩, hS.F ht⟩) hS.2.2 dX1_share_126
          · have t_10 : i_8.toInt < (10 : Int) := i_nle (by decide) rfl c_9
            refine lv_iload_n hx hb dX1_share_88 rfl (lv_at hl 1 rfl) ?_
            refine lv_if_le (tgt := 126) hx hb dX1_share_89 (by decide) (fun c_11 => ?_) (fun c_11 => ?_)
            · have t_12 : o_8.toInt ≤ (0 : Int) := i_le rfl (by decide) c_11
              refine W.widen (k := 0) (n := 0) (Nat.le_of_ble_eq_true rfl) (Nat.le_of_ble_eq_true rfl) ?_
              have hP9 := hP.sub (ws' := [(h0, .inr (1, [.ref o_came, .ref o_coins, .ref o_rem])), (o_came, .inl (k_came, 10, .inl f_came)), (o_coins, .inl (k_coins, 10, .inl ga_o_coins_8)), (o_rem, .inl (k_rem, 10, .inr (.inl ga_o_rem_8)))]) [2, 3, 0, 1] rfl
              have hD9 := hD.sub (ws' := [(h0, .inr (1, [.ref o_came, .ref o_coins, .ref o_rem])), (o_came, .inl (k_came, 10, .inl f_came)), (o_coins, .inl (k_coins, 10, .inl ga_o_coins_8)), (o_rem, .inl (k_rem, 10, .inr (.inl ga_o_rem_8)))]) [2, 3, 0, 1] (by decide) rfl
              have hK9 := hK.sub (tys' := []) [] rfl
              exact W.vret hx hb hr (fun t ht hW => ⟨⟨(), rfl, trivial, ⟨ga_o_coins_8, ga_o_rem_8, by rw [ht]; exact hP9, va_K.moved hW.alike hK9, hD9⟩⟩, hS.F ht⟩) hS.2.2 dX1_share_126
            · have t_12 : (0 : Int) < o_8.toInt := i_nle rfl (by decide) c_11
              refine lv_aload_n hx hb dX1_share_92 rfl (lv_at hl 3 rfl) ?_
              have hPc := hP.sub (ws' := [(h0, .inr (1, [.ref o_came, .ref o_coins, .ref o_rem])), (o_rem, .inl (k_rem, 10, .inr (.inl ga_o_rem_8)))]) [2, 1] rfl
              have hDc := hD.sub (ws' := [(h0, .inr (1, [.ref o_came, .ref o_coins, .ref o_rem])), (o_rem, .inl (k_rem, 10, .inr (.inl ga_o_rem_8)))]) [2, 1] (by decide) rfl
              have hKc := hK.sub (tys' := [(k_rem, .long)]) [2] rfl
              have hFc := va_free (wc := [(h0, .inr (1, [.ref o_came, .ref o_coins, .ref o_rem])), (o_rem, .inl (k_rem, 10, .inr (.inl ga_o_rem_8)))]) hD hS hA [2, 1] rfl
              refine va_calli (va_runV (C := RX1) (As := []) (rest := []) ⟨hx, hb, hml, hown, htb⟩ (kX1_greatestRemainder l dC dI H.size h0 o_came o_coins o_rem k_rem ga_o_rem_8 ) ⟨callB_of 0 htb (gd_c m_778) rfl rfl rfl (htb _ m_9) (htb _ m_775) hdX1_greatestRemainder ⟨(Nat.le_of_ble_eq_true rfl), (Nat.le_of_ble_eq_true rfl)⟩, htb _ m_777, htb _ ms_15⟩ ⟨pcW_blind, va_recv hKc hPc (ci := 1) (q0 := 0) rfl rfl, pcW_at hPc hKc hDc hN⟩ rfl rfl hl.1 rfl (lv_room (Nat.le_of_ble_eq_true rfl)) dX1_share_93 ⟨(Nat.le_of_ble_eq_true rfl), (Nat.le_of_ble_eq_true rfl)⟩) hS (fun q _ h => hFc q h) hFc (fun r_13 u t H1 locs1 ht hvm h_14 hB hz1 hk1 hS1 => ?_)
              obtain ⟨hP1, hK1, hD1⟩ := hB
              rw [ht] at hP1
              obtain ⟨hPn, hDn⟩ := va_join (wr := [(o_coins, .inl (k_coins, 10, .inl ga_o_coins_8)), (o_came, .inl (k_came, 10, .inl f_came))]) (w1 := [(h0, .inr (1, [.ref o_came, .ref o_coins, .ref o_rem])), (o_rem, .inl (k_rem, 10, .inr (.inl ga_o_rem_8)))]) hP hD [2, 1] [0, 3] rfl rfl (by decide) (by decide) hk1 hFc hP1 hD1
              clear hP1 hD1 hK1
              clear hP hD hS hPc hDc hKc hFc hk1 hz1 ht hvm
              clear t
              revert hS1 hPn hDn; generalize H1 = H; generalize locs1 = locs; intro hS hP hD
              change va_P (dC, dI) vwCl [(o_coins, .inl (k_coins, 10, .inl ga_o_coins_8)), (o_came, .inl (k_came, 10, .inl f_came)), (h0, .inr (1, [.ref o_came, .ref o_coins, .ref o_rem])), (o_rem, .inl (k_rem, 10, .inr (.inl ga_o_rem_8)))] H at hP
              change va_D A [(o_coins, .inl (k_coins, 10, .inl ga_o_coins_8)), (o_came, .inl (k_came, 10, .inl f_came)), (h0, .inr (1, [.ref o_came, .ref o_coins, .ref o_rem])), (o_rem, .inl (k_rem, 10, .inr (.inl ga_o_rem_8)))] at hD
              refine lv_istore (lv' := [(5, .int r_13), (4, .int i_8), (3, .int o_8), (2, .int r_1), (0, .ref h0), (1, .int v1)]) hx hb dX1_share_96 hl (by decide) rfl ?_
              clear hl; intro ls hl
              refine lv_aload_n hx hb dX1_share_98 rfl (lv_at hl 4 rfl) ?_
              refine va_get (D := (dC, dI)) (ci := 1) (v := .ref o_coins) (C := RX1) (T := TX1) (N := 3) hx hb htb iX1 hown hK hP 2 rfl rfl 1 (Nat.le_of_ble_eq_true rfl) (htb _ m_220) (fun _ h9 => h9) rfl dX1_share_99 ?_
              refine lv_iload hx hb dX1_share_102 (lv_at hl 0 rfl) ?_
              refine lv_dup2_11 hx hb dX1_share_104 rfl rfl ?_
              refine va_iald hx hb hK hP 0 1 rfl rfl (i_in rfl (lg_X1_share_6 r_1 i_5 n5 i_8 o_8 n8 r_13 h_2 t_4 hi5_0 hmu5 t_7 hi8_0 hmu8 t_10 t_12 h_14)) dX1_share_105 ?_
              refine lv_topi (fun x_15 ex_16 => ?_)
              refine lv_iconst (v := 1) hx hb dX1_share_106 (by decide) ?_
              refine lv_iadd hx hb dX1_share_107 ?_
              refine lv_topi (fun x_17 ex_18 => ?_)
              refine va_iast hx hb hK hP hD hS 0 1 rfl rfl (i_in rfl (lg_X1_share_6 r_1 i_5 n5 i_8 o_8 n8 r_13 h_2 t_4 hi5_0 hmu5 t_7 hi8_0 hmu8 t_10 t_12 h_14)) dX1_share_108 ?_
              clear hP hD hS; intro H locs hP hD hS
              change va_P (dC, dI) vwCl [(o_coins, .inl (k_coins, 10, .inl (upd ga_o_coins_8 (Int32.toNatClampNeg r_13) x_17))), (o_came, .inl (k_came, 10, .inl f_came)), (h0, .inr (1, [.ref o_came, .ref o_coins, .ref o_rem])), (o_rem, .inl (k_rem, 10, .inr (.inl ga_o_rem_8)))] H at hP
              change va_D A [(o_coins, .inl (k_coins, 10, .inl (upd ga_o_coins_8 (Int32.toNatClampNeg r_13) x_17))), (o_came, .inl (k_came, 10, .inl f_came)), (h0, .inr (1, [.ref o_came, .ref o_coins, .ref o_rem])), (o_rem, .inl (k_rem, 10, .inr (.inl ga_o_rem_8)))] at hD
              generalize upd ga_o_coins_8 (Int32.toNatClampNeg r_13) x_17 = g_20 at hP hD
              refine lv_aload_n hx hb dX1_share_109 rfl (lv_at hl 4 rfl) ?_
              refine va_get (D := (dC, dI)) (ci := 1) (v := .ref o_rem) (C := RX1) (T := TX1) (N := 3) hx hb htb iX1 hown hK hP 2 rfl rfl 2 (Nat.le_of_ble_eq_true rfl) (htb _ m_221) (fun _ h9 => h9) rfl dX1_share_110 ?_
              refine lv_iload hx hb dX1_share_113 (lv_at hl 0 rfl) ?_
              refine lv_lconst (v := 0) hx hb dX1_share_115 (by decide) ?_
              refine va_last hx hb hK hP hD hS 3 2 rfl rfl (i_in rfl (lg_X1_share_6 r_1 i_5 n5 i_8 o_8 n8 r_13 h_2 t_4 hi5_0 hmu5 t_7 hi8_0 hmu8 t_10 t_12 h_14)) dX1_share_116 ?_
              clear hP hD hS; intro H locs hP hD hS
              change va_P (dC, dI) vwCl [(o_coins, .inl (k_coins, 10, .inl g_20)), (o_came, .inl (k_came, 10, .inl f_came)), (h0, .inr (1, [.ref o_came, .ref o_coins, .ref o_rem])), (o_rem, .inl (k_rem, 10, .inr (.inl (vp_updL ga_o_rem_8 (Int32.toNatClampNeg r_13) 0))))] H at hP
              change va_D A [(o_coins, .inl (k_coins, 10, .inl g_20)), (o_came, .inl (k_came, 10, .inl f_came)), (h0, .inr (1, [.ref o_came, .ref o_coins, .ref o_rem])), (o_rem, .inl (k_rem, 10, .inr (.inl (vp_updL ga_o_rem_8 (Int32.toNatClampNeg r_13) 0))))] at hD
              generalize vp_updL ga_o_rem_8 (Int32.toNatClampNeg r_13) 0 = g_21 at hP hD
              obtain ⟨x_22, ex_23⟩ : ∃ y : Int32, y = o_8 + Int32.ofInt (-1) := ⟨_, rfl⟩
              refine lv_iinc (v := x_22) (lv' := [(3, .int x_22), (5, .int r_13), (4, .int i_8), (2, .int r_1), (0, .ref h0), (1, .int v1)]) hx hb dX1_share_117 hl (k := 2) rfl ex_23.symm (by decide) rfl ?_
              clear hl; intro ls hl
              obtain ⟨x_25, ex_26⟩ : ∃ y : Int32, y = i_8 + Int32.ofInt 1 := ⟨_, rfl⟩
              have t_27 : x_25.toInt = i_8.toInt + 1 := i_add rfl (by decide) (lg_X1_share_7 r_1 i_5 n5 i_8 o_8 n8 r_13 h_2 t_4 hi5_0 hmu5 t_7 hi8_0 hmu8 t_10 t_12 h_14) ex_26
              refine lv_iinc (v := x_25) (lv' := [(4, .int x_25), (3, .int x_22), (5, .int r_13), (2, .int r_1), (0, .ref h0), (1, .int v1)]) hx hb dX1_share_120 hl (k := 2) rfl ex_26.symm (by decide) rfl ?_
              clear hl; intro ls hl
              refine lv_goto (tgt := 81) hx hb dX1_share_123 (by decide) ?_
              exact ih8 x_25 x_22 g_20 g_21 H locs ls (lg_X1_share_8 r_1 i_5 n5 i_8 o_8 n8 r_13 x_25 h_2 t_4 hi5_0 hmu5 t_7 hi8_0 hmu8 t_10 t_12 h_14 t_27) (lg_X1_share_9 r_1 i_5 n5 i_8 o_8 n8 r_13 x_25 h_2 t_4 hi5_0 hmu5 t_7 hi8_0 hmu8 t_10 t_12 h_14 t_27)   (lv_sub hl [0, 1, 3, 4, 5] rfl) (hP.sub [0, 3, 2, 1] rfl) (hD.sub [0, 3, 2, 1] (by decide) rfl) hS
      · have t_7 : i_5.toInt < (10 : Int) := i_nle (by decide) rfl c_6
        refine lv_iload_n hx hb dX1_share_22 rfl (lv_at hl 4 rfl) ?_
        refine lv_i2l hx hb dX1_share_23 rfl ?_
        refine lv_topl (fun x_28 ex_29 => ?_)
        refine lv_aload_n hx hb dX1_share_24 rfl (lv_at hl 3 rfl) ?_
        refine va_get (D := (dC, dI)) (ci := 1) (v := .ref o_came) (C := RX1) (T := TX1) (N := 3) hx hb htb iX1 hown hK hP 2 rfl rfl 0 (Nat.le_of_ble_eq_true rfl) (htb _ m_219) (fun _ h9 => h9) rfl dX1_share_25 ?_
        refine lv_iload hx hb dX1_share_28 (lv_at hl 0 rfl) ?_
        refine va_iald hx hb hK hP 3 0 rfl rfl (i_in rfl (lg_X1_share_10 r_1 i_5 n5 h_2 t_4 hi5_0 hmu5 t_7)) dX1_share_30 ?_
        refine lv_topi (fun x_30 ex_31 => ?_)
        refine lv_i2l hx hb dX1_share_31 rfl ?_
        refine lv_topl (fun x_32 ex_33 => ?_)
        refine lv_lmul hx hb dX1_share_32 ?_
        refine lv_topl (fun x_34 ex_35 => ?_)
        refine lv_lstore (lv' := [(5, .long x_34), (4, .int i_5), (3, .int o_5), (2, .int r_1), (0, .ref h0), (1, .int v1)]) hx hb dX1_share_33 hl (by decide) rfl ?_
        clear hl; intro ls hl
        refine lv_lload hx hb dX1_share_35 (lv_at hl 0 rfl) ?_
        refine lv_iload_n hx hb dX1_share_37 rfl (lv_at hl 3 rfl) ?_
        refine lv_i2l hx hb dX1_share_38 rfl ?_
        refine lv_topl (fun x_36 ex_37 => ?_)
        refine lv_ldiv hx hb dX1_share_39 (i_lne ex_37 (lg_X1_share_11 r_1 i_5 n5 h_2 t_4 hi5_0 hmu5 t_7)) ?_
        refine lv_topl (fun x_38 ex_39 => ?_)
        refine lv_l2i hx hb dX1_share_40 rfl ?_
        refine lv_topi (fun x_40 ex_41 => ?_)
        refine lv_istore (lv' := [(7, .int x_40), (5, .long x_34), (4, .int i_5), (3, .int o_5), (2, .int r_1), (0, .ref h0), (1, .int v1)]) hx hb dX1_share_41 hl (by decide) rfl ?_
        clear hl; intro ls hl
        refine lv_aload_n hx hb dX1_share_43 rfl (lv_at hl 5 rfl) ?_
        refine va_get (D := (dC, dI)) (ci := 1) (v := .ref o_coins) (C := RX1) (T := TX1) (N := 3) hx hb htb iX1 hown hK hP 2 rfl rfl 1 (Nat.le_of_ble_eq_true rfl) (htb _ m_220) (fun _ h9 => h9) rfl dX1_share_44 ?_
        refine lv_iload hx hb dX1_share_47 (lv_at hl 2 rfl) ?_
        refine lv_dup2_11 hx hb dX1_share_49 rfl rfl ?_
        refine va_iald hx hb hK hP 0 1 rfl rfl (i_in rfl (lg_X1_share_10 r_1 i_5 n5 h_2 t_4 hi5_0 hmu5 t_7)) dX1_share_50 ?_
        refine lv_topi (fun x_42 ex_43 => ?_)
        refine lv_iload hx hb dX1_share_51 (lv_at hl 0 rfl) ?_
        refine lv_iadd hx hb dX1_share_53 ?_
        refine lv_topi (fun x_44 ex_45 => ?_)
        refine va_iast hx hb hK hP hD hS 0 1 rfl rfl (i_in rfl (lg_X1_share_10 r_1 i_5 n5 h_2 t_4 hi5_0 hmu5 t_7)) dX1_share_54 ?_
        clear hP hD hS; intro H locs hP hD hS
        change va_P (dC, dI) vwCl [(o_coins, .inl (k_coins, 10, .inl (upd ga_o_coins_5 (Int32.toNatClampNeg i_5) x_44))), (o_rem, .inl (k_rem, 10, .inr (.inl ga_o_rem_5))), (h0, .inr (1, [.ref o_came, .ref o_coins, .ref o_rem])), (o_came, .inl (k_came, 10, .inl f_came))] H at hP
        change va_D A [(o_coins, .inl (k_coins, 10, .inl (upd ga_o_coins_5 (Int32.toNatClampNeg i_5) x_44))), (o_rem, .inl (k_rem, 10, .inr (.inl ga_o_rem_5))), (h0, .inr (1, [.ref o_came, .ref o_coins, .ref o_rem])), (o_came, .inl (k_came, 10, .inl f_came))] at hD
        generalize upd ga_o_coins_5 (Int32.toNatClampNeg i_5) x_44 = g_47 at hP hD
        refine lv_iload_n hx hb dX1_share_55 rfl (lv_at hl 3 rfl) ?_
        refine lv_iload hx hb dX1_share_56 (lv_at hl 0 rfl) ?_
        refine lv_isub hx hb dX1_share_58 ?_
        refine lv_topi (fun x_48 ex_49 => ?_)
        refine lv_istore_n (lv' := [(3, .int x_48), (7, .int x_40), (5, .long x_34), (4, .int i_5), (2, .int r_1), (0, .ref h0), (1, .int v1)]) hx hb dX1_share_59 rfl hl (by decide) rfl ?_
        clear hl; intro ls hl
        refine lv_aload_n hx hb dX1_share_60 rfl (lv_at hl 5 rfl) ?_
        refine va_get (D := (dC, dI)) (ci := 1) (v := .ref o_rem) (C := RX1) (T := TX1) (N := 3) hx hb htb iX1 hown hK hP 2 rfl rfl 2 (Nat.le_of_ble_eq_true rfl) (htb _ m_221) (fun _ h9 => h9) rfl dX1_share_61 ?_
        refine lv_iload hx hb dX1_share_64 (lv_at hl 3 rfl) ?_
        refine lv_lload hx hb dX1_share_66 (lv_at hl 2 rfl) ?_
        refine lv_iload_n hx hb dX1_share_68 rfl (lv_at hl 4 rfl) ?_
        refine lv_i2l hx hb dX1_share_69 rfl ?_
        refine lv_topl (fun x_51 ex_52 => ?_)
        refine lv_lrem hx hb dX1_share_70 (i_lne ex_52 (lg_X1_share_11 r_1 i_5 n5 h_2 t_4 hi5_0 hmu5 t_7)) ?_
        refine lv_topl (fun x_53 ex_54 => ?_)
        refine va_last hx hb hK hP hD hS 1 2 rfl rfl (i_in rfl (lg_X1_share_10 r_1 i_5 n5 h_2 t_4 hi5_0 hmu5 t_7)) dX1_share_71 ?_
        clear hP hD hS; intro H locs hP hD hS
        change va_P (dC, dI) vwCl [(o_coins, .inl (k_coins, 10, .inl g_47)), (o_rem, .inl (k_rem, 10, .inr (.inl (vp_updL ga_o_rem_5 (Int32.toNatClampNeg i_5) x_53)))), (h0, .inr (1, [.ref o_came, .ref o_coins, .ref o_rem])), (o_came, .inl (k_came, 10, .inl f_came))] H at hP
        change va_D A [(o_coins, .inl (k_coins, 10, .inl g_47)), (o_rem, .inl (k_rem, 10, .inr (.inl (vp_updL ga_o_rem_5 (Int32.toNatClampNeg i_5) x_53)))), (h0, .inr (1, [.ref o_came, .ref o_coins, .ref o_rem])), (o_came, .inl (k_came, 10, .inl f_came))] at hD
        generalize vp_updL ga_o_rem_5 (Int32.toNatClampNeg i_5) x_53 = g_55 at hP hD
        obtain ⟨x_56, ex_57⟩ : ∃ y : Int32, y = i_5 + Int32.ofInt 1 := ⟨_, rfl⟩
        have t_58 : x_56.toInt = i_5.toInt + 1 := i_add rfl (by decide) (lg_X1_share_12 r_1 i_5 n5 h_2 t_4 hi5_0 hmu5 t_7) ex_57
        refine lv_iinc (v := x_56) (lv' := [(4, .int x_56), (3, .int x_48), (7, .int x_40), (5, .long x_34), (2, .int r_1), (0, .ref h0), (1, .int v1)]) hx hb dX1_share_72 hl (k := 3) rfl ex_57.symm (by decide) rfl ?_
        clear hl; intro ls hl
        refine lv_goto (tgt := 15) hx hb dX1_share_75 (by decide) ?_
        exact ih5 x_56 x_48 g_47 g_55 H locs ls (lg_X1_share_13 r_1 i_5 n5 x_56 h_2 t_4 hi5_0 hmu5 t_7 t_58) (lg_X1_share_14 r_1 i_5 n5 x_56 h_2 t_4 hi5_0 hmu5 t_7 t_58)   (lv_sub hl [0, 1, 4, 5, 6] rfl) (hP.sub [0, 1, 2, 3] rfl) (hD.sub [0, 1, 2, 3] (by decide) rfl) hS
  · have t_4 : r_1.toInt ≤ (0 : Int) := i_nlt (by decide) rfl c_3
    refine W.widen (k := 0) (n := 0) (Nat.le_of_ble_eq_true rfl) (Nat.le_of_ble_eq_true rfl) ?_
    have hP9 := hP.sub (ws' := [(h0, .inr (1, [.ref o_came, .ref o_coins, .ref o_rem])), (o_came, .inl (k_came, 10, .inl f_came)), (o_coins, .inl (k_coins, 10, .inl f_coins)), (o_rem, .inl (k_rem, 10, .inr (.inl f_rem)))]) [2, 3, 0, 1] rfl
    have hD9 := hD.sub (ws' := [(h0, .inr (1, [.ref o_came, .ref o_coins, .ref o_rem])), (o_came, .inl (k_came, 10, .inl f_came)), (o_coins, .inl (k_coins, 10, .inl f_coins)), (o_rem, .inl (k_rem, 10, .inr (.inl f_rem)))]) [2, 3, 0, 1] (by decide) rfl
    have hK9 := hK.sub (tys' := []) [] rfl
    exact W.vret hx hb hr (fun t ht hW => ⟨⟨(), rfl, trivial, ⟨f_coins, f_rem, by rw [ht]; exact hP9, va_K.moved hW.alike hK9, hD9⟩⟩, hS.F ht⟩) hS.2.2 dX1_share_9
