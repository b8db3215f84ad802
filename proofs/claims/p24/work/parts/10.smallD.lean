theorem lg_X5_endStatement_0 (n_bk : Int32) (yk : 0 ≤ n_bk.toInt ∧ n_bk.toInt ≤ 16) (t_2 : (16 : Int) ≤ n_bk.toInt) : 0 ≤ n_bk.toInt ∧ n_bk.toInt ≤ 16 := by
  have := rg_rng n_bk; omega
theorem lg_X5_endStatement_1 (n_bk : Int32) (yk : 0 ≤ n_bk.toInt ∧ n_bk.toInt ≤ 16) (t_2 : (16 : Int) ≤ n_bk.toInt) : (n_bk.toInt < 16 ∧ n_bk.toInt = n_bk.toInt + 1) ∨ (n_bk.toInt = 16 ∧ n_bk.toInt = n_bk.toInt) := by
  have := rg_rng n_bk; omega
theorem lg_X5_endStatement_2 (n_bk : Int32) (yk : 0 ≤ n_bk.toInt ∧ n_bk.toInt ≤ 16) (t_2 : n_bk.toInt < (16 : Int)) : -2147483648 ≤ n_bk.toInt + (1 : Int) ∧ n_bk.toInt + (1 : Int) < 2147483648 := by
  have := rg_rng n_bk; omega
theorem lg_X5_endStatement_3 (n_bk : Int32) (x_3 : Int32) (yk : 0 ≤ n_bk.toInt ∧ n_bk.toInt ≤ 16) (t_2 : n_bk.toInt < (16 : Int)) (t_5 : x_3.toInt = n_bk.toInt + (1 : Int)) : 0 ≤ x_3.toInt ∧ x_3.toInt ≤ 16 := by
  have := rg_rng n_bk; have := rg_rng x_3; omega
theorem lg_X5_endStatement_4 (n_bk : Int32) (x_3 : Int32) (yk : 0 ≤ n_bk.toInt ∧ n_bk.toInt ≤ 16) (t_2 : n_bk.toInt < (16 : Int)) (t_5 : x_3.toInt = n_bk.toInt + (1 : Int)) : (n_bk.toInt < 16 ∧ x_3.toInt = n_bk.toInt + 1) ∨ (n_bk.toInt = 16 ∧ x_3.toInt = n_bk.toInt) := by
  have := rg_rng n_bk; have := rg_rng x_3; omega
set_option maxHeartbeats 4000000 in
set_option maxRecDepth 100000 in
theorem kX5_endStatement (l : Launch) (dC : Nat → ClassId) (dI : Nat → Nat → Nat) (sz : Nat) (h0 : Nat) (b_deed : Nat) (b_value : Nat) (b_tests : Nat) (b_thing : Nat) (b_sign : Nat) (b_number : Nat) (n_bk : Int32) (yk : 0 ≤ n_bk.toInt ∧ n_bk.toInt ≤ 16) : Met l yX5_endStatement (Cond.code yX5_endStatement cX5_endStatement 1 none :: bg) ({ frames := 0, cells := 0, slots := 0, locals := 0 }) (pcW dC dI [.ref h0] sz [(h0, .inr (5, [.ref b_deed, .ref b_value, .ref b_tests, .ref b_thing, .ref b_sign, .ref b_number, .int n_bk]))] []) (va_Qv (fun (u : Unit) => True) (fun (u : Unit) (t : State) => ∃ (w_bk : Int32), (0 ≤ w_bk.toInt ∧ w_bk.toInt ≤ 16) ∧ ((n_bk.toInt < 16 ∧ w_bk.toInt = n_bk.toInt + 1) ∨ (n_bk.toInt = 16 ∧ w_bk.toInt = n_bk.toInt)) ∧ va_P (dC, dI) vwCl [(h0, .inr (5, [.ref b_deed, .ref b_value, .ref b_tests, .ref b_thing, .ref b_sign, .ref b_number, .int w_bk]))] t.heap ∧ va_K (dC, dI) vwCl [] t ∧ va_D (va_A [(h0, .inr (5, [.ref b_deed, .ref b_value, .ref b_tests, .ref b_thing, .ref b_sign, .ref b_number, .int n_bk]))] sz) [(h0, .inr (5, [.ref b_deed, .ref b_value, .ref b_tests, .ref b_thing, .ref b_sign, .ref b_number, .int w_bk]))]) (va_A [(h0, .inr (5, [.ref b_deed, .ref b_value, .ref b_tests, .ref b_thing, .ref b_sign, .ref b_number, .int n_bk]))] sz)) 0 0 (va_A [(h0, .inr (5, [.ref b_deed, .ref b_value, .ref b_tests, .ref b_thing, .ref b_sign, .ref b_number, .int n_bk]))] sz) := by
  refine Met.ofW (cc := cX5_endStatement) (maxL := 1) (ret := none) pnX5 rfl ?_
  intro p e s m args below meth c s₁ B hml hv
  obtain ⟨rfl, hsz, hP, hK, hD0, hN⟩ := hv
  have hx := B.exec
  have hb := B.bytes
  have hr := B.returns
  have htb : ∀ w ∈ bg, w.before [.ref h0].toArray s = true := fun w h => atoms_spec (ws := Cond.code yX5_endStatement cX5_endStatement 1 none :: bg) B.pre w (List.mem_cons_of_mem _ h)
  have hown : s.vm.findClass RX5 = some m.cls := findClass_of_methodNamed B.named
  have hlocks := B.notSynchronized
  subst hsz
  have hD := hD0.self (sz := s.heap.size)
  generalize hAe : va_A [(h0, .inr (5, [.ref b_deed, .ref b_value, .ref b_tests, .ref b_thing, .ref b_sign, .ref b_number, .int n_bk]))] s.heap.size = A at hD ⊢
  have hA : ∀ q : Nat, s.heap.size ≤ q → A q := fun q h => by rw [← hAe]; exact Or.inr h
  have hS : va_S A s.heap s.heap [] := va_S.rf
  have hl := lv_entry ([.ref h0]) (n := 1) (Nat.le_of_ble_eq_true rfl)
  rw [lg_entry_eq]
  generalize (lg_sl ([.ref h0]) ++ List.replicate (1 - (lg_sl ([.ref h0])).length) Slot.unset).toArray = ls at hl ⊢
  change lv_has ls 1 [(0, .ref h0)] at hl
  clear hD0 hAe
  refine go0 (wsP := fun H => va_P (dC, dI) vwCl [(h0, .inr (5, [.ref b_deed, .ref b_value, .ref b_tests, .ref b_thing, .ref b_sign, .ref b_number, .int n_bk]))] H) hP hS ?_
  clear hP hS; intro H locs hP hS
  change va_P (dC, dI) vwCl [(h0, .inr (5, [.ref b_deed, .ref b_value, .ref b_tests, .ref b_thing, .ref b_sign, .ref b_number, .int n_bk]))] H at hP
  refine lv_aload_n hx hb dX5_endStatement_0 rfl (lv_at hl 0 rfl) ?_
  refine va_get (D := (dC, dI)) (ci := 5) (v := .int n_bk) (C := RX5) (T := TX5) (N := 7) hx hb htb iX5 hown hK hP 0 rfl rfl 6 (Nat.le_of_ble_eq_true rfl) (htb _ m_285) (fun _ h9 => h9) rfl dX5_endStatement_1 ?_
  refine lv_bipush (v := 16) hx hb dX5_endStatement_4 (by decide) ?_
  refine lv_icmp_ge (tgt := 19) hx hb dX5_endStatement_6 (by decide) (fun c_1 => ?_) (fun c_1 => ?_)
  · have t_2 : (16 : Int) ≤ n_bk.toInt := i_le (by decide) rfl c_1
    refine W.widen (k := 0) (n := 0) (Nat.le_of_ble_eq_true rfl) (Nat.le_of_ble_eq_true rfl) ?_
    have hP9 := hP.sub (ws' := [(h0, .inr (5, [.ref b_deed, .ref b_value, .ref b_tests, .ref b_thing, .ref b_sign, .ref b_number, .int n_bk]))]) [0] rfl
    have hD9 := hD.sub (ws' := [(h0, .inr (5, [.ref b_deed, .ref b_value, .ref b_tests, .ref b_thing, .ref b_sign, .ref b_number, .int n_bk]))]) [0] (by decide) rfl
    have hK9 := hK.sub (tys' := []) [] rfl
    exact W.vret hx hb hr (fun t ht hW => ⟨⟨(), rfl, trivial, ⟨n_bk, (lg_X5_endStatement_0 n_bk yk t_2), (lg_X5_endStatement_1 n_bk yk t_2), by rw [ht]; exact hP9, va_K.moved hW.alike hK9, hD9⟩⟩, hS.F ht⟩) hS.2.2 dX5_endStatement_19
  · have t_2 : n_bk.toInt < (16 : Int) := i_nle (by decide) rfl c_1
    refine lv_aload_n hx hb dX5_endStatement_9 rfl (lv_at hl 0 rfl) ?_
    refine lv_dup hx hb dX5_endStatement_10 rfl ?_
    refine va_get (D := (dC, dI)) (ci := 5) (v := .int n_bk) (C := RX5) (T := TX5) (N := 7) hx hb htb iX5 hown hK hP 0 rfl rfl 6 (Nat.le_of_ble_eq_true rfl) (htb _ m_285) (fun _ h9 => h9) rfl dX5_endStatement_11 ?_
    refine lv_iconst (v := 1) hx hb dX5_endStatement_14 (by decide) ?_
    refine lv_iadd hx hb dX5_endStatement_15 ?_
    refine lv_topi (fun x_3 ex_4 => ?_)
    have t_5 : x_3.toInt = n_bk.toInt + (1 : Int) := i_add rfl (by decide) (lg_X5_endStatement_2 n_bk yk t_2) ex_4
    refine va_put (D := (dC, dI)) (ci := 5) (v := .int x_3) (C := RX5) (T := TX5) (N := 7) hx hb htb iX5 tyX5 tyX5_ok nmX5 hown hK hP hD hS 0 rfl rfl 6 (Nat.le_of_ble_eq_true rfl) (htb _ m_285) (fun _ h9 => h9) rfl (tyX5_ok 6 (Nat.le_of_ble_eq_true rfl)) rfl rfl (Nat.le_of_ble_eq_true rfl) dX5_endStatement_16 ?_
    clear hP hD hS; intro H locs hP hD hS
    change va_P (dC, dI) vwCl [(h0, .inr (5, [.ref b_deed, .ref b_value, .ref b_tests, .ref b_thing, .ref b_sign, .ref b_number, .int x_3]))] H at hP
    change va_D A [(h0, .inr (5, [.ref b_deed, .ref b_value, .ref b_tests, .ref b_thing, .ref b_sign, .ref b_number, .int x_3]))] at hD
    refine W.widen (k := 0) (n := 0) (Nat.le_of_ble_eq_true rfl) (Nat.le_of_ble_eq_true rfl) ?_
    have hP9 := hP.sub (ws' := [(h0, .inr (5, [.ref b_deed, .ref b_value, .ref b_tests, .ref b_thing, .ref b_sign, .ref b_number, .int x_3]))]) [0] rfl
    have hD9 := hD.sub (ws' := [(h0, .inr (5, [.ref b_deed, .ref b_value, .ref b_tests, .ref b_thing, .ref b_sign, .ref b_number, .int x_3]))]) [0] (by decide) rfl
    have hK9 := hK.sub (tys' := []) [] rfl
    exact W.vret hx hb hr (fun t ht hW => ⟨⟨(), rfl, trivial, ⟨x_3, (lg_X5_endStatement_3 n_bk x_3 yk t_2 t_5), (lg_X5_endStatement_4 n_bk x_3 yk t_2 t_5), by rw [ht]; exact hP9, va_K.moved hW.alike hK9, hD9⟩⟩, hS.F ht⟩) hS.2.2 dX5_endStatement_19

theorem lg_X5_addTest_0 (n_bk : Int32) (yk : 0 ≤ n_bk.toInt ∧ n_bk.toInt ≤ 16) (t_2 : n_bk.toInt < (16 : Int)) : 0 ≤ n_bk.toInt ∧ n_bk.toInt < ((16 : Nat) : Int) := by
  have := rg_rng n_bk; omega
theorem lg_X5_addTest_1 (n_bk : Int32) (x_3 : Int32) (yk : 0 ≤ n_bk.toInt ∧ n_bk.toInt ≤ 16) (t_2 : n_bk.toInt < (16 : Int)) (t_5 : 0 ≤ x_3.toInt ∧ x_3.toInt ≤ 3) (t_7 : x_3.toInt < (3 : Int)) : -2147483648 ≤ n_bk.toInt * (3 : Int) ∧ n_bk.toInt * (3 : Int) < 2147483648 := by
  have := rg_rng n_bk; have := rg_rng x_3; omega
theorem lg_X5_addTest_2 (n_bk : Int32) (x_3 : Int32) (x_8 : Int32) (yk : 0 ≤ n_bk.toInt ∧ n_bk.toInt ≤ 16) (t_2 : n_bk.toInt < (16 : Int)) (t_5 : 0 ≤ x_3.toInt ∧ x_3.toInt ≤ 3) (t_7 : x_3.toInt < (3 : Int)) (t_10 : x_8.toInt = n_bk.toInt * (3 : Int)) : 0 ≤ n_bk.toInt ∧ n_bk.toInt < ((16 : Nat) : Int) := by
  have := rg_rng n_bk; have := rg_rng x_3; have := rg_rng x_8; omega
theorem lg_X5_addTest_3 (n_bk : Int32) (x_3 : Int32) (x_8 : Int32) (x_11 : Int32) (yk : 0 ≤ n_bk.toInt ∧ n_bk.toInt ≤ 16) (t_2 : n_bk.toInt < (16 : Int)) (t_5 : 0 ≤ x_3.toInt ∧ x_3.toInt ≤ 3) (t_7 : x_3.toInt < (3 : Int)) (t_10 : x_8.toInt = n_bk.toInt * (3 : Int)) (t_13 : 0 ≤ x_11.toInt ∧ x_11.toInt ≤ 3) (t_14 : x_11.toInt = x_3.toInt) : -2147483648 ≤ x_8.toInt + x_11.toInt ∧ x_8.toInt + x_11.toInt < 2147483648 := by
  have := rg_rng n_bk; have := rg_rng x_3; have := rg_rng x_8; have := rg_rng x_11; omega
theorem lg_X5_addTest_4 (n_bk : Int32) (x_3 : Int32) (x_8 : Int32) (x_11 : Int32) (x_15 : Int32) (yk : 0 ≤ n_bk.toInt ∧ n_bk.toInt ≤ 16) (t_2 : n_bk.toInt < (16 : Int)) (t_5 : 0 ≤ x_3.toInt ∧ x_3.toInt ≤ 3) (t_7 : x_3.toInt < (3 : Int)) (t_10 : x_8.toInt = n_bk.toInt * (3 : Int)) (t_13 : 0 ≤ x_11.toInt ∧ x_11.toInt ≤ 3) (t_14 : x_11.toInt = x_3.toInt) (t_17 : x_15.toInt = x_8.toInt + x_11.toInt) : 0 ≤ x_15.toInt ∧ x_15.toInt < ((48 : Nat) : Int) := by
  have := rg_rng n_bk; have := rg_rng x_3; have := rg_rng x_8; have := rg_rng x_11; have := rg_rng x_15; omega
theorem lg_X5_addTest_5 (n_bk : Int32) (x_3 : Int32) (x_8 : Int32) (x_11 : Int32) (x_15 : Int32) (yk : 0 ≤ n_bk.toInt ∧ n_bk.toInt ≤ 16) (t_2 : n_bk.toInt < (16 : Int)) (t_5 : 0 ≤ x_3.toInt ∧ x_3.toInt ≤ 3) (t_7 : x_3.toInt < (3 : Int)) (t_10 : x_8.toInt = n_bk.toInt * (3 : Int)) (t_13 : 0 ≤ x_11.toInt ∧ x_11.toInt ≤ 3) (t_14 : x_11.toInt = x_3.toInt) (t_17 : x_15.toInt = x_8.toInt + x_11.toInt) : 0 ≤ n_bk.toInt ∧ n_bk.toInt < ((16 : Nat) : Int) := by
  have := rg_rng n_bk; have := rg_rng x_3; have := rg_rng x_8; have := rg_rng x_11; have := rg_rng x_15; omega
theorem lg_X5_addTest_6 (n_bk : Int32) (x_3 : Int32) (x_8 : Int32) (x_11 : Int32) (x_15 : Int32) (x_21 : Int32) (yk : 0 ≤ n_bk.toInt ∧ n_bk.toInt ≤ 16) (t_2 : n_bk.toInt < (16 : Int)) (t_5 : 0 ≤ x_3.toInt ∧ x_3.toInt ≤ 3) (t_7 : x_3.toInt < (3 : Int)) (t_10 : x_8.toInt = n_bk.toInt * (3 : Int)) (t_13 : 0 ≤ x_11.toInt ∧ x_11.toInt ≤ 3) (t_14 : x_11.toInt = x_3.toInt) (t_17 : x_15.toInt = x_8.toInt + x_11.toInt) (t_23 : 0 ≤ x_21.toInt ∧ x_21.toInt ≤ 3) (t_24 : x_21.toInt = x_11.toInt) : -2147483648 ≤ x_21.toInt + (1 : Int) ∧ x_21.toInt + (1 : Int) < 2147483648 := by
  have := rg_rng n_bk; have := rg_rng x_3; have := rg_rng x_8; have := rg_rng x_11; have := rg_rng x_15; have := rg_rng x_21; omega
theorem lg_X5_addTest_7 (n_bk : Int32) (x_3 : Int32) (x_8 : Int32) (x_11 : Int32) (x_15 : Int32) (x_21 : Int32) (x_25 : Int32) (yk : 0 ≤ n_bk.toInt ∧ n_bk.toInt ≤ 16) (t_2 : n_bk.toInt < (16 : Int)) (t_5 : 0 ≤ x_3.toInt ∧ x_3.toInt ≤ 3) (t_7 : x_3.toInt < (3 : Int)) (t_10 : x_8.toInt = n_bk.toInt * (3 : Int)) (t_13 : 0 ≤ x_11.toInt ∧ x_11.toInt ≤ 3) (t_14 : x_11.toInt = x_3.toInt) (t_17 : x_15.toInt = x_8.toInt + x_11.toInt) (t_23 : 0 ≤ x_21.toInt ∧ x_21.toInt ≤ 3) (t_24 : x_21.toInt = x_11.toInt) (t_27 : x_25.toInt = x_21.toInt + (1 : Int)) : 0 ≤ n_bk.toInt ∧ n_bk.toInt < ((16 : Nat) : Int) := by
  have := rg_rng n_bk; have := rg_rng x_3; have := rg_rng x_8; have := rg_rng x_11; have := rg_rng x_15; have := rg_rng x_21; have := rg_rng x_25; omega
theorem lg_X5_addTest_8 (n_bk : Int32) (x_3 : Int32) (x_8 : Int32) (x_11 : Int32) (x_15 : Int32) (x_21 : Int32) (x_25 : Int32) (yk : 0 ≤ n_bk.toInt ∧ n_bk.toInt ≤ 16) (t_2 : n_bk.toInt < (16 : Int)) (t_5 : 0 ≤ x_3.toInt ∧ x_3.toInt ≤ 3) (t_7 : x_3.toInt < (3 : Int)) (t_10 : x_8.toInt = n_bk.toInt * (3 : Int)) (t_13 : 0 ≤ x_11.toInt ∧ x_11.toInt ≤ 3) (t_14 : x_11.toInt = x_3.toInt) (t_17 : x_15.toInt = x_8.toInt + x_11.toInt) (t_23 : 0 ≤ x_21.toInt ∧ x_21.toInt ≤ 3) (t_24 : x_21.toInt = x_11.toInt) (t_27 : x_25.toInt = x_21.toInt + (1 : Int)) : 0 ≤ x_25.toInt ∧ x_25.toInt ≤ 3 := by
  have := rg_rng n_bk; have := rg_rng x_3; have := rg_rng x_8; have := rg_rng x_11; have := rg_rng x_15; have := rg_rng x_21; have := rg_rng x_25; omega
set_option maxHeartbeats 4000000 in
set_option maxRecDepth 100000 in
theorem kX5_addTest (l : Launch) (dC : Nat → ClassId) (dI : Nat → Nat → Nat) (sz : Nat) (h0 : Nat) (b_deed : Nat) (b_value : Nat) (b_tests : Nat) (b_thing : Nat) (b_sign : Nat) (b_number : Nat) (n_bk : Int32) (k_tests : ClassId) (k_thing : ClassId) (k_sign : ClassId) (k_number : ClassId) (f_tests : Nat → Int32) (f_thing : Nat → Int32) (f_sign : Nat → Int32) (f_number : Nat → Int32) (v1 : Int32) (v2 : Int32) (v3 : Int32) (yk : 0 ≤ n_bk.toInt ∧ n_bk.toInt ≤ 16) (yt : Rg f_tests 16 0 3) : Met l yX5_addTest (Cond.code yX5_addTest cX5_addTest 5 none :: bg) ({ frames := 0, cells := 0, slots := 0, locals := 0 }) (pcW dC dI [.ref h0, .int v1, .int v2, .int v3] sz [(h0, .inr (5, [.ref b_deed, .ref b_value, .ref b_tests, .ref b_thing, .ref b_sign, .ref b_number, .int n_bk])), (b_tests, .inl (k_tests, 16, .inl f_tests)), (b_thing, .inl (k_thing, 48, .inl f_thing)), (b_sign, .inl (k_sign, 48, .inl f_sign)), (b_number, .inl (k_number, 48, .inl f_number))] [(k_tests, .int), (k_thing, .int), (k_sign, .int), (k_number, .int)]) (va_Qv (fun (u : Unit) => True) (fun (u : Unit) (t : State) => ∃ (w_tests : Nat → Int32) (w_thing : Nat → Int32) (w_sign : Nat → Int32) (w_number : Nat → Int32), Rg w_tests 16 0 3 ∧ va_P (dC, dI) vwCl [(h0, .inr (5, [.ref b_deed, .ref b_value, .ref b_tests, .ref b_thing, .ref b_sign, .ref b_number, .int n_bk])), (b_tests, .inl (k_tests, 16, .inl w_tests)), (b_thing, .inl (k_thing, 48, .inl w_thing)), (b_sign, .inl (k_sign, 48, .inl w_sign)), (b_number, .inl (k_number, 48, .inl w_number))] t.heap ∧ va_K (dC, dI) vwCl [] t ∧ va_D (va_A [(h0, .inr (5, [.ref b_deed, .ref b_value, .ref b_tests, .ref b_thing, .ref b_sign, .ref b_number, .int n_bk])), (b_tests, .inl (k_tests, 16, .inl f_tests)), (b_thing, .inl (k_thing, 48, .inl f_thing)), (b_sign, .inl (k_sign, 48, .inl f_sign)), (b_number, .inl (k_number, 48, .inl f_number))] sz) [(h0, .inr (5, [.ref b_deed, .ref b_value, .ref b_tests, .ref b_thing, .ref b_sign, .ref b_number, .int n_bk])), (b_tests, .inl (k_tests, 16, .inl w_tests)), (b_thing, .inl (k_thing, 48, .inl w_thing)), (b_sign, .inl (k_sign, 48, .inl w_sign)), (b_number, .inl (k_number, 48, .inl w_number))]) (va_A [(h0, .inr (5, [.ref b_deed, .ref b_value, .ref b_tests, .ref b_thing, .ref b_sign, .ref b_number, .int n_bk])), (b_tests, .inl (k_tests, 16, .inl f_tests)), (b_thing, .inl (k_thing, 48, .inl f_thing)), (b_sign, .inl (k_sign, 48, .inl f_sign)), (b_number, .inl (k_number, 48, .inl f_number))] sz)) 0 0 (va_A [(h0, .inr (5, [.ref b_deed, .ref b_value, .ref b_tests, .ref b_thing, .ref b_sign, .ref b_number, .int n_bk])), (b_tests, .inl (k_tests, 16, .inl f_tests)), (b_thing, .inl (k_thing, 48, .inl f_thing)), (b_sign, .inl (k_sign, 48, .inl f_sign)), (b_number, .inl (k_number, 48, .inl f_number))] sz) := by
  refine Met.ofW (cc := cX5_addTest) (maxL := 5) (ret := none) pnX5 rfl ?_
  intro p e s m args below meth c s₁ B hml hv
  obtain ⟨rfl, hsz, hP, hK, hD0, hN⟩ := hv
  have hx := B.exec
  have hb := B.bytes
  have hr := B.returns
  have htb : ∀ w ∈ bg, w.before [.ref h0, .int v1, .int v2, .int v3].toArray s = true := fun w h => atoms_spec (ws := Cond.code yX5_addTest cX5_addTest 5 none :: bg) B.pre w (List.mem_cons_of_mem _ h)
  have hown : s.vm.findClass RX5 = some m.cls := findClass_of_methodNamed B.named
  have hlocks := B.notSynchronized
  subst hsz
  have hD := hD0.self (sz := s.heap.size)
  generalize hAe : va_A [(h0, .inr (5, [.ref b_deed, .ref b_value, .ref b_tests, .ref b_thing, .ref b_sign, .ref b_number, .int n_bk])), (b_tests, .inl (k_tests, 16, .inl f_tests)), (b_thing, .inl (k_thing, 48, .inl f_thing)), (b_sign, .inl (k_sign, 48, .inl f_sign)), (b_number, .inl (k_number, 48, .inl f_number))] s.heap.size = A at hD ⊢
  have hA : ∀ q : Nat, s.heap.size ≤ q → A q := fun q h => by rw [← hAe]; exact Or.inr h
  have hS : va_S A s.heap s.heap [] := va_S.rf
  have hl := lv_entry ([.ref h0, .int v1, .int v2, .int v3]) (n := 5) (Nat.le_of_ble_eq_true rfl)
  rw [lg_entry_eq]
  generalize (lg_sl ([.ref h0, .int v1, .int v2, .int v3]) ++ List.replicate (5 - (lg_sl ([.ref h0, .int v1, .int v2, .int v3])).length) Slot.unset).toArray = ls at hl ⊢
  change lv_has ls 5 [(0, .ref h0), (1, .int v1), (2, .int v2), (3, .int v3)] at hl
  clear hD0 hAe
  refine go0 (wsP := fun H => va_P (dC, dI) vwCl [(h0, .inr (5, [.ref b_deed, .ref b_value, .ref b_tests, .ref b_thing, .ref b_sign, .ref b_number, .int n_bk])), (b_tests, .inl (k_tests, 16, .inl f_tests)), (b_thing, .inl (k_thing, 48, .inl f_thing)), (b_sign, .inl (k_sign, 48, .inl f_sign)), (b_number, .inl (k_number, 48, .inl f_number))] H) hP hS ?_
  clear hP hS; intro H locs hP hS
  change va_P (dC, dI) vwCl [(h0, .inr (5, [.ref b_deed, .ref b_value, .ref b_tests, .ref b_thing, .ref b_sign, .ref b_number, .int n_bk])), (b_tests, .inl (k_tests, 16, .inl f_tests)), (b_thing, .inl (k_thing, 48, .inl f_thing)), (b_sign, .inl (k_sign, 48, .inl f_sign)), (b_number, .inl (k_number, 48, .inl f_number))] H at hP
  refine lv_aload_n hx hb dX5_addTest_0 rfl (lv_at hl 0 rfl) ?_
  refine va_get (D := (dC, dI)) (ci := 5) (v := .int n_bk) (C := RX5) (T := TX5) (N := 7) hx hb htb iX5 hown hK hP 0 rfl rfl 6 (Nat.le_of_ble_eq_true rfl) (htb _ m_285) (fun _ h9 => h9) rfl dX5_addTest_1 ?_
  refine lv_bipush (v := 16) hx hb dX5_addTest_4 (by decide) ?_
  refine lv_icmp_ge (tgt := 22) hx hb dX5_addTest_6 (by decide) (fun c_1 => ?_) (fun c_1 => ?_)
  · have t_2 : (16 : Int) ≤ n_bk.toInt := i_le (by decide) rfl c_1
    refine W.widen (k := 0) (n := 0) (Nat.le_of_ble_eq_true rfl) (Nat.le_of_ble_eq_true rfl) ?_
    have hP9 := hP.sub (ws' := [(h0, .inr (5, [.ref b_deed, .ref b_value, .ref b_tests, .ref b_thing, .ref b_sign, .ref b_number, .int n_bk])), (b_tests, .inl (k_tests, 16, .inl f_tests)), (b_thing, .inl (k_thing, 48, .inl f_thing)), (b_sign, .inl (k_sign, 48, .inl f_sign)), (b_number, .inl (k_number, 48, .inl f_number))]) [0, 1, 2, 3, 4] rfl
    have hD9 := hD.sub (ws' := [(h0, .inr (5, [.ref b_deed, .ref b_value, .ref b_tests, .ref b_thing, .ref b_sign, .ref b_number, .int n_bk])), (b_tests, .inl (k_tests, 16, .inl f_tests)), (b_thing, .inl (k_thing, 48, .inl f_thing)), (b_sign, .inl (k_sign, 48, .inl f_sign)), (b_number, .inl (k_number, 48, .inl f_number))]) [0, 1, 2, 3, 4] (by decide) rfl
    have hK9 := hK.sub (tys' := []) [] rfl
    exact W.vret hx hb hr (fun t ht hW => ⟨⟨(), rfl, trivial, ⟨f_tests, f_thing, f_sign, f_number, yt, by rw [ht]; exact hP9, va_K.moved hW.alike hK9, hD9⟩⟩, hS.F ht⟩) hS.2.2 dX5_addTest_22
  · have t_2 : n_bk.toInt < (16 : Int) := i_nle (by decide) rfl c_1
    refine lv_aload_n hx hb dX5_addTest_9 rfl (lv_at hl 0 rfl) ?_
    refine va_get (D := (dC, dI)) (ci := 5) (v := .ref b_tests) (C := RX5) (T := TX5) (N := 7) hx hb htb iX5 hown hK hP 0 rfl rfl 2 (Nat.le_of_ble_eq_true rfl) (htb _ m_281) (fun _ h9 => h9) rfl dX5_addTest_10 ?_
    refine lv_aload_n hx hb dX5_addTest_13 rfl (lv_at hl 0 rfl) ?_
    refine va_get (D := (dC, dI)) (ci := 5) (v := .int n_bk) (C := RX5) (T := TX5) (N := 7) hx hb htb iX5 hown hK hP 0 rfl rfl 6 (Nat.le_of_ble_eq_true rfl) (htb _ m_285) (fun _ h9 => h9) rfl dX5_addTest_14 ?_
    refine va_iald hx hb hK hP 1 0 rfl rfl (i_in rfl (lg_X5_addTest_0 n_bk yk t_2)) dX5_addTest_17 ?_
    refine lv_topi (fun x_3 ex_4 => ?_)
    have t_5 : 0 ≤ x_3.toInt ∧ x_3.toInt ≤ 3 := Rg_ld yt (i_in rfl (lg_X5_addTest_0 n_bk yk t_2)) ex_4
    refine lv_iconst (v := 3) hx hb dX5_addTest_18 (by decide) ?_
    refine lv_icmp_lt (tgt := 23) hx hb dX5_addTest_19 (by decide) (fun c_6 => ?_) (fun c_6 => ?_)
    · have t_7 : x_3.toInt < (3 : Int) := i_lt rfl (by decide) c_6
      refine lv_aload_n hx hb dX5_addTest_23 rfl (lv_at hl 0 rfl) ?_
      refine va_get (D := (dC, dI)) (ci := 5) (v := .int n_bk) (C := RX5) (T := TX5) (N := 7) hx hb htb iX5 hown hK hP 0 rfl rfl 6 (Nat.le_of_ble_eq_true rfl) (htb _ m_285) (fun _ h9 => h9) rfl dX5_addTest_24 ?_
      refine lv_iconst (v := 3) hx hb dX5_addTest_27 (by decide) ?_
      refine lv_imul hx hb dX5_addTest_28 ?_
      refine lv_topi (fun x_8 ex_9 => ?_)
      have t_10 : x_8.toInt = n_bk.toInt * (3 : Int) := i_mul rfl (by decide) (lg_X5_addTest_1 n_bk x_3 yk t_2 t_5 t_7) ex_9
      refine lv_aload_n hx hb dX5_addTest_29 rfl (lv_at hl 0 rfl) ?_
      refine va_get (D := (dC, dI)) (ci := 5) (v := .ref b_tests) (C := RX5) (T := TX5) (N := 7) hx hb htb iX5 hown hK hP 0 rfl rfl 2 (Nat.le_of_ble_eq_true rfl) (htb _ m_281) (fun _ h9 => h9) rfl dX5_addTest_30 ?_
      refine lv_aload_n hx hb dX5_addTest_33 rfl (lv_at hl 0 rfl) ?_
      refine va_get (D := (dC, dI)) (ci := 5) (v := .int n_bk) (C := RX5) (T := TX5) (N := 7) hx hb htb iX5 hown hK hP 0 rfl rfl 6 (Nat.le_of_ble_eq_true rfl) (htb _ m_285) (fun _ h9 => h9) rfl dX5_addTest_34 ?_
      refine va_iald hx hb hK hP 1 0 rfl rfl (i_in rfl (lg_X5_addTest_2 n_bk x_3 x_8 yk t_2 t_5 t_7 t_10)) dX5_addTest_37 ?_
      refine lv_topi (fun x_11 ex_12 => ?_)
      have t_13 : 0 ≤ x_11.toInt ∧ x_11.toInt ≤ 3 := Rg_ld yt (i_in rfl (lg_X5_addTest_2 n_bk x_3 x_8 yk t_2 t_5 t_7 t_10)) ex_12
      have t_14 : x_11.toInt = x_3.toInt := by rw [ex_12, ex_4]
      refine lv_iadd hx hb dX5_addTest_38 ?_
      refine lv_topi (fun x_15 ex_16 => ?_)
      have t_17 : x_15.toInt = x_8.toInt + x_11.toInt := i_add rfl rfl (lg_X5_addTest_3 n_bk x_3 x_8 x_11 yk t_2 t_5 t_7 t_10 t_13 t_14) ex_16
      refine lv_istore (lv' := [(4, .int x_15), (0, .ref h0), (1, .int v1), (2, .int v2), (3, .int v3)]) hx hb dX5_addTest_39 hl (by decide) rfl ?_
      clear hl; intro ls hl
      refine lv_aload_n hx hb dX5_addTest_41 rfl (lv_at hl 1 rfl) ?_
      refine va_get (D := (dC, dI)) (ci := 5) (v := .ref b_thing) (C := RX5) (T := TX5) (N := 7) hx hb htb iX5 hown hK hP 0 rfl rfl 3 (Nat.le_of_ble_eq_true rfl) (htb _ m_282) (fun _ h9 => h9) rfl dX5_addTest_42 ?_
      refine lv_iload hx hb dX5_addTest_45 (lv_at hl 0 rfl) ?_
      refine lv_iload_n hx hb dX5_addTest_47 rfl (lv_at hl 2 rfl) ?_
      refine va_iast hx hb hK hP hD hS 2 1 rfl rfl (i_in rfl (lg_X5_addTest_4 n_bk x_3 x_8 x_11 x_15 yk t_2 t_5 t_7 t_10 t_13 t_14 t_17)) dX5_addTest_48 ?_
      clear hP hD hS; intro H locs hP hD hS
      change va_P (dC, dI) vwCl [(h0, .inr (5, [.ref b_deed, .ref b_value, .ref b_tests, .ref b_thing, .ref b_sign, .ref b_number, .int n_bk])), (b_tests, .inl (k_tests, 16, .inl f_tests)), (b_thing, .inl (k_thing, 48, .inl (upd f_thing (Int32.toNatClampNeg x_15) v1))), (b_sign, .inl (k_sign, 48, .inl f_sign)), (b_number, .inl (k_number, 48, .inl f_number))] H at hP
      change va_D A [(h0, .inr (5, [.ref b_deed, .ref b_value, .ref b_tests, .ref b_thing, .ref b_sign, .ref b_number, .int n_bk])), (b_tests, .inl (k_tests, 16, .inl f_tests)), (b_thing, .inl (k_thing, 48, .inl (upd f_thing (Int32.toNatClampNeg x_15) v1))), (b_sign, .inl (k_sign, 48, .inl f_sign)), (b_number, .inl (k_number, 48, .inl f_number))] at hD
      generalize upd f_thing (Int32.toNatClampNeg x_15) v1 = g_18 at hP hD
      refine lv_aload_n hx hb dX5_addTest_49 rfl (lv_at hl 1 rfl) ?_
      refine va_get (D := (dC, dI)) (ci := 5) (v := .ref b_sign) (C := RX5) (T := TX5) (N := 7) hx hb htb iX5 hown hK hP 0 rfl rfl 4 (Nat.le_of_ble_eq_true rfl) (htb _ m_283) (fun _ h9 => h9) rfl dX5_addTest_50 ?_
      refine lv_iload hx hb dX5_addTest_53 (lv_at hl 0 rfl) ?_
      refine lv_iload_n hx hb dX5_addTest_55 rfl (lv_at hl 3 rfl) ?_
      refine va_iast hx hb hK hP hD hS 3 2 rfl rfl (i_in rfl (lg_X5_addTest_4 n_bk x_3 x_8 x_11 x_15 yk t_2 t_5 t_7 t_10 t_13 t_14 t_17)) dX5_addTest_56 ?_
      clear hP hD hS; intro H locs hP hD hS
      change va_P (dC, dI) vwCl [(h0, .inr (5, [.ref b_deed, .ref b_value, .ref b_tests, .ref b_thing, .ref b_sign, .ref b_number, .int n_bk])), (b_tests, .inl (k_tests, 16, .inl f_tests)), (b_thing, .inl (k_thing, 48, .inl g_18)), (b_sign, .inl (k_sign, 48, .inl (upd f_sign (Int32.toNatClampNeg x_15) v2))), (b_number, .inl (k_number, 48, .inl f_number))] H at hP
      change va_D A [(h0, .inr (5, [.ref b_deed, .ref b_value, .ref b_tests, .ref b_thing, .ref b_sign, .ref b_number, .int n_bk])), (b_tests, .inl (k_tests, 16, .inl f_tests)), (b_thing, .inl (k_thing, 48, .inl g_18)), (b_sign, .inl (k_sign, 48, .inl (upd f_sign (Int32.toNatClampNeg x_15) v2))), (b_number, .inl (k_number, 48, .inl f_number))] at hD
      generalize upd f_sign (Int32.toNatClampNeg x_15) v2 = g_19 at hP hD
      refine lv_aload_n hx hb dX5_addTest_57 rfl (lv_at hl 1 rfl) ?_
      refine va_get (D := (dC, dI)) (ci := 5) (v := .ref b_number) (C := RX5) (T := TX5) (N := 7) hx hb htb iX5 hown hK hP 0 rfl rfl 5 (Nat.le_of_ble_eq_true rfl) (htb _ m_284) (fun _ h9 => h9) rfl dX5_addTest_58 ?_
      refine lv_iload hx hb dX5_addTest_61 (lv_at hl 0 rfl) ?_
      refine lv_iload_n hx hb dX5_addTest_63 rfl (lv_at hl 4 rfl) ?_
      refine va_iast hx hb hK hP hD hS 4 3 rfl rfl (i_in rfl (lg_X5_addTest_4 n_bk x_3 x_8 x_11 x_15 yk t_2 t_5 t_7 t_10 t_13 t_14 t_17)) dX5_addTest_64 ?_
      clear hP hD hS; intro H locs hP hD hS
      change va_P (dC, dI) vwCl [(h0, .inr (5, [.ref b_deed, .ref b_value, .ref b_tests, .ref b_thing, .ref b_sign, .ref b_number, .int n_bk])), (b_tests, .inl (k_tests, 16, .inl f_tests)), (b_thing, .inl (k_thing, 48, .inl g_18)), (b_sign, .inl (k_sign, 48, .inl g_19)), (b_number, .inl (k_number, 48, .inl (upd f_number (Int32.toNatClampNeg x_15) v3)))] H at hP
      change va_D A [(h0, .inr (5, [.ref b_deed, .ref b_value, .ref b_tests, .ref b_thing, .ref b_sign, .ref b_number, .int n_bk])), (b_tests, .inl (k_tests, 16, .inl f_tests)), (b_thing, .inl (k_thing, 48, .inl g_18)), (b_sign, .inl (k_sign, 48, .inl g_19)), (b_number, .inl (k_number, 48, .inl (upd f_number (Int32.toNatClampNeg x_15) v3)))] at hD
      generalize upd f_number (Int32.toNatClampNeg x_15) v3 = g_20 at hP hD
      refine lv_aload_n hx hb dX5_addTest_65 rfl (lv_at hl 1 rfl) ?_
      refine va_get (D := (dC, dI)) (ci := 5) (v := .ref b_tests) (C := RX5) (T := TX5) (N := 7) hx hb htb iX5 hown hK hP 0 rfl rfl 2 (Nat.le_of_ble_eq_true rfl) (htb _ m_281) (fun _ h9 => h9) rfl dX5_addTest_66 ?_
      refine lv_aload_n hx hb dX5_addTest_69 rfl (lv_at hl 1 rfl) ?_
      refine va_get (D := (dC, dI)) (ci := 5) (v := .int n_bk) (C := RX5) (T := TX5) (N := 7) hx hb htb iX5 hown hK hP 0 rfl rfl 6 (Nat.le_of_ble_eq_true rfl) (htb _ m_285) (fun _ h9 => h9) rfl dX5_addTest_70 ?_
      refine lv_dup2_11 hx hb dX5_addTest_73 rfl rfl ?_
      refine va_iald hx hb hK hP 1 0 rfl rfl (i_in rfl (lg_X5_addTest_5 n_bk x_3 x_8 x_11 x_15 yk t_2 t_5 t_7 t_10 t_13 t_14 t_17)) dX5_addTest_74 ?_
      refine lv_topi (fun x_21 ex_22 => ?_)
      have t_23 : 0 ≤ x_21.toInt ∧ x_21.toInt ≤ 3 := Rg_ld yt (i_in rfl (lg_X5_addTest_5 n_bk x_3 x_8 x_11 x_15 yk t_2 t_5 t_7 t_10 t_13 t_14 t_17)) ex_22
      have t_24 : x_21.toInt = x_11.toInt := by rw [ex_22, ex_12]
      refine lv_iconst (v := 1) hx hb dX5_addTest_75 (by decide) ?_
      refine lv_iadd hx hb dX5_addTest_76 ?_
      refine lv_topi (fun x_25 ex_26 => ?_)
      have t_27 : x_25.toInt = x_21.toInt + (1 : Int) := i_add rfl (by decide) (lg_X5_addTest_6 n_bk x_3 x_8 x_11 x_15 x_21 yk t_2 t_5 t_7 t_10 t_13 t_14 t_17 t_23 t_24) ex_26
      refine va_iast hx hb hK hP hD hS 1 0 rfl rfl (i_in rfl (lg_X5_addTest_7 n_bk x_3 x_8 x_11 x_15 x_21 x_25 yk t_2 t_5 t_7 t_10 t_13 t_14 t_17 t_23 t_24 t_27)) dX5_addTest_77 ?_
      clear hP hD hS; intro H locs hP hD hS
      change va_P (dC, dI) vwCl [(h0, .inr (5, [.ref b_deed, .ref b_value, .ref b_tests, .ref b_thing, .ref b_sign, .ref b_number, .int n_bk])), (b_tests, .inl (k_tests, 16, .inl (upd f_tests (Int32.toNatClampNeg n_bk) x_25))), (b_thing, .inl (k_thing, 48, .inl g_18)), (b_sign, .inl (k_sign, 48, .inl g_19)), (b_number, .inl (k_number, 48, .inl g_20))] H at hP
      change va_D A [(h0, .inr (5, [.ref b_deed, .ref b_value, .ref b_tests, .ref b_thing, .ref b_sign, .ref b_number, .int n_bk])), (b_tests, .inl (k_tests, 16, .inl (upd f_tests (Int32.toNatClampNeg n_bk) x_25))), (b_thing, .inl (k_thing, 48, .inl g_18)), (b_sign, .inl (k_sign, 48, .inl g_19)), (b_number, .inl (k_number, 48, .inl g_20))] at hD
      have hR_29 : Rg (upd f_tests (Int32.toNatClampNeg n_bk) x_25) 16 0 3 := Rg_st yt rfl (lg_X5_addTest_8 n_bk x_3 x_8 x_11 x_15 x_21 x_25 yk t_2 t_5 t_7 t_10 t_13 t_14 t_17 t_23 t_24 t_27)
      generalize upd f_tests (Int32.toNatClampNeg n_bk) x_25 = g_28 at hP hD hR_29
      refine W.widen (k := 0) (n := 0) (Nat.le_of_ble_eq_true rfl) (Nat.le_of_ble_eq_true rfl) ?_
      have hP9 := hP.sub (ws' := [(h0, .inr (5, [.ref b_deed, .ref b_value, .ref b_tests, .ref b_thing, .ref b_sign, .ref b_number, .int n_bk])), (b_tests, .inl (k_tests, 16, .inl g_28)), (b_thing, .inl (k_thing, 48, .inl g_18)), (b_sign, .inl (k_sign, 48, .inl g_19)), (b_number, .inl (k_number, 48, .inl g_20))]) [0, 1, 2, 3, 4] rfl
      have hD9 := hD.sub (ws' := [(h0, .inr (5, [.ref b_deed, .ref b_value, .ref b_tests, .ref b_thing, .ref b_sign, .ref b_number, .int n_bk])), (b_tests, .inl (k_tests, 16, .inl g_28)), (b_thing, .inl (k_thing, 48, .inl g_18)), (b_sign, .inl (k_sign, 48, .inl g_19)), (b_number, .inl (k_number, 48, .inl g_20))]) [0, 1, 2, 3, 4] (by decide) rfl
      have hK9 := hK.sub (tys' := []) [] rfl
      exact W.vret hx hb hr (fun t ht hW => ⟨⟨(), rfl, trivial, ⟨g_28, g_18, g_19, g_20, hR_29, by rw [ht]; exact hP9, va_K.moved hW.alike hK9, hD9⟩⟩, hS.F ht⟩) hS.2.2 dX5_addTest_78
    · have t_7 : (3 : Int) ≤ x_3.toInt := i_nlt rfl (by decide) c_6
      refine W.widen (k := 0) (n := 0) (Nat.le_of_ble_eq_true rfl) (Nat.le_of_ble_eq_true rfl) ?_
      have hP9 := hP.sub (ws' := [(h0, .inr (5, [.ref b_deed, .ref b_value, .ref b_tests, .ref b_thing, .ref b_sign, .ref b_number, .int n_bk])), (b_tests, .inl (k_tests, 16, .inl f_tests)), (b_thing, .inl (k_thing, 48, .inl f_thing)), (b_sign, .inl (k_sign, 48, .inl f_sign)), (b_number, .inl (k_number, 48, .inl f_number))]) [0, 1, 2, 3, 4] rfl
      have hD9 := hD.sub (ws' := [(h0, .inr (5, [.ref b_deed, .ref b_value, .ref b_tests, .ref b_thing, .ref b_sign, .ref b_number, .int n_bk])), (b_tests, .inl (k_tests, 16, .inl f_tests)), (b_thing, .inl (k_thing, 48, .inl f_thing)), (b_sign, .inl (k_sign, 48, .inl f_sign)), (b_number, .inl (k_number, 48, .inl f_number))]) [0, 1, 2, 3, 4] (by decide) rfl
      have hK9 := hK.sub (tys' := []) [] rfl
      exact W.vret hx hb hr (fun t ht hW => ⟨⟨(), rfl, trivial, ⟨f_tests, f_thing, f_sign, f_number, yt, by rw [ht]; exact hP9, va_K.moved hW.alike hK9, hD9⟩⟩, hS.F ht⟩) hS.2.2 dX5_addTest_22

theorem lg_X5_holds_0 (v1 : Int32) (v2 : Int32) (v3 : Int32) (t_2 : ¬ v1.toInt = (-1 : Int)) (e_3 : v2 = 60) (t_5 : v3.toInt ≤ v1.toInt) : True := by
  have := rg_rng v1; have := rg_rng v3; trivial
theorem lg_X5_holds_1 (v1 : Int32) (v2 : Int32) (v3 : Int32) (t_2 : ¬ v1.toInt = (-1 : Int)) (e_3 : v2 = 60) (t_5 : v1.toInt < v3.toInt) : True := by
  have := rg_rng v1; have := rg_rng v3; trivial
theorem lg_X5_holds_2 (v1 : Int32) (v2 : Int32) (v3 : Int32) (t_2 : ¬ v1.toInt = (-1 : Int)) (e_3 : ¬ v2 = 60) (e_6 : v2 = 62) (t_8 : v1.toInt ≤ v3.toInt) : True := by
  have := rg_rng v1; have := rg_rng v3; trivial
theorem lg_X5_holds_3 (v1 : Int32) (v2 : Int32) (v3 : Int32) (t_2 : ¬ v1.toInt = (-1 : Int)) (e_3 : ¬ v2 = 60) (e_6 : v2 = 62) (t_8 : v3.toInt < v1.toInt) : True := by
  have := rg_rng v1; have := rg_rng v3; trivial
theorem lg_X5_holds_4 (v1 : Int32) (v2 : Int32) (v3 : Int32) (t_2 : ¬ v1.toInt = (-1 : Int)) (e_3 : ¬ v2 = 60) (e_6 : ¬ v2 = 62) (t_10 : ¬ v1.toInt = v3.toInt) : True := by
  have := rg_rng v1; have := rg_rng v3; trivial
theorem lg_X5_holds_5 (v1 : Int32) (v2 : Int32) (v3 : Int32) (t_2 : ¬ v1.toInt = (-1 : Int)) (e_3 : ¬ v2 = 60) (e_6 : ¬ v2 = 62) (t_10 : v1.toInt = v3.toInt) : True := by
  have := rg_rng v1; have := rg_rng v3; trivial
theorem lg_X5_holds_6 (v1 : Int32) (t_2 : v1.toInt = (-1 : Int)) : True := by
  have := rg_rng v1; trivial
set_option maxHeartbeats 4000000 in
set_option maxRecDepth 100000 in
theorem kX5_holds (l : Launch) (dC : Nat → ClassId) (dI : Nat → Nat → Nat) (sz : Nat) (v1 : Int32) (v2 : Int32) (v3 : Int32) : Met l yX5_holds (Cond.code yX5_holds cX5_holds 3 (some .boolean) :: bg) ({ frames := 0, cells := 0, slots := 0, locals := 0 }) (pcW dC dI [.int v1, .int v2, .int v3] sz [] []) (va_Qi (fun (r : Int32) (u : Unit) => (r = 1 ∧ True) ∨ (r = 0 ∧ True)) (fun (u : Unit) (t : State) => va_P (dC, dI) vwCl [] t.heap ∧ va_K (dC, dI) vwCl [] t ∧ va_D (va_A [] sz) []) (va_A [] sz)) 0 0 (va_A [] sz) := by
  refine Met.ofW (cc := cX5_holds) (maxL := 3) (ret := (some .boolean)) pnX5 rfl ?_
  intro p e s m args below meth c s₁ B hml hv
  obtain ⟨rfl, hsz, hP, hK, hD0, hN⟩ := hv
  have hx := B.exec
  have hb := B.bytes
  have hr := B.returns
  have htb : ∀ w ∈ bg, w.before [.int v1, .int v2, .int v3].toArray s = true := fun w h => atoms_spec (ws := Cond.code yX5_holds cX5_holds 3 (some .boolean) :: bg) B.pre w (List.mem_cons_of_mem _ h)
  have hown : s.vm.findClass RX5 = some m.cls := findClass_of_methodNamed B.named
  have hlocks := B.notSynchronized
  subst hsz
  have hD := hD0.self (sz := s.heap.size)
  generalize hAe : va_A [] s.heap.size = A at hD ⊢
  have hA : ∀ q : Nat, s.heap.size ≤ q → A q := fun q h => by rw [← hAe]; exact Or.inr h
  have hS : va_S A s.heap s.heap [] := va_S.rf
  have hl := lv_entry ([.int v1, .int v2, .int v3]) (n := 3) (Nat.le_of_ble_eq_true rfl)
  rw [lg_entry_eq]
  generalize (lg_sl ([.int v1, .int v2, .int v3]) ++ List.replicate (3 - (lg_sl ([.int v1, .int v2, .int v3])).length) Slot.unset).toArray = ls at hl ⊢
  change lv_has ls 3 [(0, .int v1), (1, .int v2), (2, .int v3)] at hl
  clear hD0 hAe
  refine go0 (wsP := fun H => va_P (dC, dI) vwCl [] H) hP hS ?_
  clear hP hS; intro H locs hP hS
  change va_P (dC, dI) vwCl [] H at hP
  refine lv_iload_n hx hb dX5_holds_0 rfl (lv_at hl 0 rfl) ?_
  refine lv_iconst (v := (-1)) hx hb dX5_holds_1 (by decide) ?_
  refine lv_icmp_ne (tgt := 7) hx hb dX5_holds_2 (by decide) (fun c_1 => ?_) (fun c_1 => ?_)
  · have t_2 : ¬ v1.toInt = (-1 : Int) := i_ne rfl (by decide) c_1
    refine lv_iload_n hx hb dX5_holds_7 rfl (lv_at hl 1 rfl) ?_
    by_cases e_3 : v2 = 60
    · refine lv_lookup (off := 28) (tgt := 36) hx hb dX5_holds_8 (by decide) (by rw [e_3]; decide) (by decide) ?_
      refine lv_iload_n hx hb dX5_holds_36 rfl (lv_at hl 0 rfl) ?_
      refine lv_iload_n hx hb dX5_holds_37 rfl (lv_at hl 2 rfl) ?_
      refine lv_icmp_ge (tgt := 45) hx hb dX5_holds_38 (by decide) (fun c_4 => ?_) (fun c_4 => ?_)
      · have t_5 : v3.toInt ≤ v1.toInt := i_le rfl rfl c_4
        refine lv_iconst (v := 0) hx hb dX5_holds_45 (by decide) ?_
        refine W.widen (k := 0) (n := 0) (Nat.le_of_ble_eq_true rfl) (Nat.le_of_ble_eq_true rfl) ?_
        have hP9 := hP.sub (ws' := []) [] rfl
        have hD9 := hD.sub (ws' := []) [] (by decide) rfl
        have hK9 := hK.sub (tys' := []) [] rfl
        exact W.zret (ty := .boolean) (v := 0) hx hb hr rfl (fun t ht hW => ⟨⟨0, (), rfl, (Or.inr (⟨rfl, (lg_X5_holds_0 v1 v2 v3 t_2 e_3 t_5)⟩)), ⟨by rw [ht]; exact hP9, va_K.moved hW.alike hK9, hD9⟩⟩, hS.F ht⟩) hS.2.2 dX5_holds_46
      · have t_5 : v1.toInt < v3.toInt := i_nle rfl rfl c_4
        refine lv_iconst (v := 1) hx hb dX5_holds_41 (by decide) ?_
        refine lv_goto (tgt := 46) hx hb dX5_holds_42 (by decide) ?_
        refine W.widen (k := 0) (n := 0) (Nat.le_of_ble_eq_true rfl) (Nat.le_of_ble_eq_true rfl) ?_
        have hP9 := hP.sub (ws' := []) [] rfl
        have hD9 := hD.sub (ws' := []) [] (by decide) rfl
        have hK9 := hK.sub (tys' := []) [] rfl
        exact W.zret (ty := .boolean) (v := 1) hx hb hr rfl (fun t ht hW => ⟨⟨1, (), rfl, (Or.inl ⟨rfl, (lg_X5_holds_1 v1 v2 v3 t_2 e_3 t_5)⟩), ⟨by rw [ht]; exact hP9, va_K.moved hW.alike hK9, hD9⟩⟩, hS.F ht⟩) hS.2.2 dX5_holds_46
    by_cases e_6 : v2 = 62
    · refine lv_lookup (off := 39) (tgt := 47) hx hb dX5_holds_8 (by decide) (by rw [e_6]; decide) (by decide) ?_
      refine lv_iload_n hx hb dX5_holds_47 rfl (lv_at hl 0 rfl) ?_
      refine lv_iload_n hx hb dX5_holds_48 rfl (lv_at hl 2 rfl) ?_
      refine lv_icmp_le (tgt := 56) hx hb dX5_holds_49 (by decide) (fun c_7 => ?_) (fun c_7 => ?_)
      · have t_8 : v1.toInt ≤ v3.toInt := i_le rfl rfl c_7
        refine lv_iconst (v := 0) hx hb dX5_holds_56 (by decide) ?_
        refine W.widen (k := 0) (n := 0) (Nat.le_of_ble_eq_true rfl) (Nat.le_of_ble_eq_true rfl) ?_
        have hP9 := hP.sub (ws' := []) [] rfl
        have hD9 := hD.sub (ws' := []) [] (by decide) rfl
        have hK9 := hK.sub (tys' := []) [] rfl
        exact W.zret (ty := .boolean) (v := 0) hx hb hr rfl (fun t ht hW => ⟨⟨0, (), rfl, (Or.inr (⟨rfl, (lg_X5_holds_2 v1 v2 v3 t_2 e_3 e_6 t_8)⟩)), ⟨by rw [ht]; exact hP9, va_K.moved hW.alike hK9, hD9⟩⟩, hS.F ht⟩) hS.2.2 dX5_holds_57
      · have t_8 : v3.toInt < v1.toInt := i_nle rfl rfl c_7
        refine lv_iconst (v := 1) hx hb dX5_holds_52 (by decide) ?_
        refine lv_goto (tgt := 57) hx hb dX5_holds_53 (by decide) ?_
        refine W.widen (k := 0) (n := 0) (Nat.le_of_ble_eq_true rfl) (Nat.le_of_ble_eq_true rfl) ?_
        have hP9 := hP.sub (ws' := []) [] rfl
        have hD9 := hD.sub (ws' := []) [] (by decide) rfl
        have hK9 := hK.sub (tys' := []) [] rfl
        exact W.zret (ty := .boolean) (v := 1) hx hb hr rfl (fun t ht hW => ⟨⟨1, (), rfl, (Or.inl ⟨rfl, (lg_X5_holds_3 v1 v2 v3 t_2 e_3 e_6 t_8)⟩), ⟨by rw [ht]; exact hP9, va_K.moved hW.alike hK9, hD9⟩⟩, hS.F ht⟩) hS.2.2 dX5_holds_57
    refine lv_lookup (off := 50) (tgt := 58) hx hb dX5_holds_8 (by decide) ((lv_osw e_3 (by decide)).trans ((lv_osw e_6 (by decide)).trans rfl)) (by decide) ?_
    refine lv_iload_n hx hb dX5_holds_58 rfl (lv_at hl 0 rfl) ?_
    refine lv_iload_n hx hb dX5_holds_59 rfl (lv_at hl 2 rfl) ?_
    refine lv_icmp_ne (tgt := 67) hx hb dX5_holds_60 (by decide) (fun c_9 => ?_) (fun c_9 => ?_)
    · have t_10 : ¬ v1.toInt = v3.toInt := i_ne rfl rfl c_9
      refine lv_iconst (v := 0) hx hb dX5_holds_67 (by decide) ?_
      refine W.widen (k := 0) (n := 0) (Nat.le_of_ble_eq_true rfl) (Nat.le_of_ble_eq_true rfl) ?_
      have hP9 := hP.sub (ws' := []) [] rfl
      have hD9 := hD.sub (ws' := []) [] (by decide) rfl
      have hK9 := hK.sub (tys' := []) [] rfl
      exact W.zret (ty := .boolean) (v := 0) hx hb hr rfl (fun t ht hW => ⟨⟨0, (), rfl, (Or.inr (⟨rfl, (lg_X5_holds_4 v1 v2 v3 t_2 e_3 e_6 t_10)⟩)), ⟨by rw [ht]; exact hP9, va_K.moved hW.alike hK9, hD9⟩⟩, hS.F ht⟩) hS.2.2 dX5_holds_68
    · have t_10 : v1.toInt = v3.toInt := i_eq rfl rfl c_9
      refine lv_iconst (v := 1) hx hb dX5_holds_63 (by decide) ?_
      refine lv_goto (tgt := 68) hx hb dX5_holds_64 (by decide) ?_
      refine W.widen (k := 0) (n := 0) (Nat.le_of_ble_eq_true rfl) (Nat.le_of_ble_eq_true rfl) ?_
      have hP9 := hP.sub (ws' := []) [] rfl
      have hD9 := hD.sub (ws' := []) [] (by decide) rfl
      have hK9 := hK.sub (tys' := []) [] rfl
      exact W.zret (ty := .boolean) (v := 1) hx hb hr rfl (fun t ht hW => ⟨⟨1, (), rfl, (Or.inl ⟨rfl, (lg_X5_holds_5 v1 v2 v3 t_2 e_3 e_6 t_10)⟩), ⟨by rw [ht]; exact hP9, va_K.moved hW.alike hK9, hD9⟩⟩, hS.F ht⟩) hS.2.2 dX5_holds_68
  · have t_2 : v1.toInt = (-1 : Int) := i_eq rfl (by decide) c_1
    refine lv_iconst (v := 0) hx hb dX5_holds_5 (by decide) ?_
    refine W.widen (k := 0) (n := 0) (Nat.le_of_ble_eq_true rfl) (Nat.le_of_ble_eq_true rfl) ?_
    have hP9 := hP.sub (ws' := []) [] rfl
    have hD9 := hD.sub (ws' := []) [] (by decide) rfl
    have hK9 := hK.sub (tys' := []) [] rfl
    exact W.zret (ty := .boolean) (v := 0) hx hb hr rfl (fun t ht hW => ⟨⟨0, (), rfl, (Or.inr (⟨rfl, (lg_X5_holds_6 v1 t_2)⟩)), ⟨by rw [ht]; exact hP9, va_K.moved hW.alike hK9, hD9⟩⟩, hS.F ht⟩) hS.2.2 dX5_holds_6

theorem lg_X9_hasRoomFor_0 (v1 : Int32) (yv : 0 ≤ v1.toInt ∧ v1.toInt ≤ 600) : -2147483648 ≤ (600 : Int) - v1.toInt ∧ (600 : Int) - v1.toInt < 2147483648 := by
  have := rg_rng v1; omega
theorem lg_X9_hasRoomFor_1 (n_ta : Int32) (v1 : Int32) (x_1 : Int32) (yv : 0 ≤ v1.toInt ∧ v1.toInt ≤ 600) (t_3 : x_1.toInt = (600 : Int) - v1.toInt) (t_5 : x_1.toInt < n_ta.toInt) : 600 < n_ta.toInt + v1.toInt := by
  have := rg_rng n_ta; have := rg_rng v1; have := rg_rng x_1; omega
theorem lg_X9_hasRoomFor_2 (n_ta : Int32) (v1 : Int32) (x_1 : Int32) (yv : 0 ≤ v1.toInt ∧ v1.toInt ≤ 600) (t_3 : x_1.toInt = (600 : Int) - v1.toInt) (t_5 : n_ta.toInt ≤ x_1.toInt) : n_ta.toInt + v1.toInt ≤ 600 := by
  have := rg_rng n_ta; have := rg_rng v1; have := rg_rng x_1; omega
set_option maxHeartbeats 4000000 in
set_option maxRecDepth 100000 in
theorem kX9_hasRoomFor (l : Launch) (dC : Nat → ClassId) (dI : Nat → Nat → Nat) (sz : Nat) (h0 : Nat) (p_bytes : Nat) (p_ts : Nat) (p_tc : Nat) (n_ta : Int32) (n_to : Int32) (n_tl : Int32) (v1 : Int32) (yv : 0 ≤ v1.toInt ∧ v1.toInt ≤ 600) : Met l yX9_hasRoomFor (Cond.code yX9_hasRoomFor cX9_hasRoomFor 2 (some .boolean) :: bg) ({ frames := 0, cells := 0, slots := 0, locals := 0 }) (pcW dC dI [.ref h0, .int v1] sz [(h0, .inr (9, [.ref p_bytes, .ref p_ts, .ref p_tc, .int n_ta, .int n_to, .int n_tl]))] []) (va_Qi (fun (r : Int32) (u : Unit) => (r = 1 ∧ n_ta.toInt + v1.toInt ≤ 600) ∨ (r = 0 ∧ 600 < n_ta.toInt + v1.toInt)) (fun (u : Unit) (t : State) => va_P (dC, dI) vwCl [(h0, .inr (9, [.ref p_bytes, .ref p_ts, .ref p_tc, .int n_ta, .int n_to, .int n_tl]))] t.heap ∧ va_K (dC, dI) vwCl [] t ∧ va_D (va_A [(h0, .inr (9, [.ref p_bytes, .ref p_ts, .ref p_tc, .int n_ta, .int n_to, .int n_tl]))] sz) [(h0, .inr (9, [.ref p_bytes, .ref p_ts, .ref p_tc, .int n_ta, .int n_to, .int n_tl]))]) (va_A [(h0, .inr (9, [.ref p_bytes, .ref p_ts, .ref p_tc, .int n_ta, .int n_to, .int n_tl]))] sz)) 0 0 (va_A [(h0, .inr (9, [.ref p_bytes, .ref p_ts, .ref p_tc, .int n_ta, .int n_to, .int n_tl]))] sz) := by
  refine Met.ofW (cc := cX9_hasRoomFor) (maxL := 2) (ret := (some .boolean)) pnX9 rfl ?_
  intro p e s m args below meth c s₁ B hml hv
  obtain ⟨rfl, hsz, hP, hK, hD0, hN⟩ := hv
  have hx := B.exec
  have hb := B.bytes
  have hr := B.returns
  have htb : ∀ w ∈ bg, w.before [.ref h0, .int v1].toArray s = true := fun w h => atoms_spec (ws := Cond.code yX9_hasRoomFor cX9_hasRoomFor 2 (some .boolean) :: bg) B.pre w (List.mem_cons_of_mem _ h)
  have hown : s.vm.findClass RX9 = some m.cls := findClass_of_methodNamed B.named
  have hlocks := B.notSynchronized
  subst hsz
  have hD := hD0.self (sz := s.heap.size)
  generalize hAe : va_A [(h0, .inr (9, [.ref p_bytes, .ref p_ts, .ref p_tc, .int n_ta, .int n_to, .int n_tl]))] s.heap.size = A at hD ⊢
  have hA : ∀ q : Nat, s.heap.size ≤ q → A q := fun q h => by rw [← hAe]; exact Or.inr h
  have hS : va_S A s.heap s.heap [] := va_S.rf
  have hl := lv_entry ([.ref h0, .int v1]) (n := 2) (Nat.le_of_ble_eq_true rfl)
  rw [lg_entry_eq]
  generalize (lg_sl ([.ref h0, .int v1]) ++ List.replicate (2 - (lg_sl ([.ref h0, .int v1])).length) Slot.unset).toArray = ls at hl ⊢
  change lv_has ls 2 [(0, .ref h0), (1, .int v1)] at hl
  clear hD0 hAe
  refine go0 (wsP := fun H => va_P (dC, dI) vwCl [(h0, .inr (9, [.ref p_bytes, .ref p_ts, .ref p_tc, .int n_ta, .int n_to, .int n_tl]))] H) hP hS ?_
  clear hP hS; intro H locs hP hS
  change va_P (dC, dI) vwCl [(h0, .inr (9, [.ref p_bytes, .ref p_ts, .ref p_tc, .int n_ta, .int n_to, .int n_tl]))] H at hP
  refine lv_aload_n hx hb dX9_hasRoomFor_0 rfl (lv_at hl 0 rfl) ?_
  refine va_get (D := (dC, dI)) (ci := 9) (v := .int n_ta) (C := RX9) (T := TX9) (N := 6) hx hb htb iX9 hown hK hP 0 rfl rfl 3 (Nat.le_of_ble_eq_true rfl) (htb _ m_239) (fun _ h9 => h9) rfl dX9_hasRoomFor_1 ?_
  refine lv_sipush (v := 600) hx hb dX9_hasRoomFor_4 (by decide) ?_
  refine lv_iload_n hx hb dX9_hasRoomFor_7 rfl (lv_at hl 1 rfl) ?_
  refine lv_isub hx hb dX9_hasRoomFor_8 ?_
  refine lv_topi (fun x_1 ex_2 => ?_)
  have t_3 : x_1.toInt = (600 : Int) - v1.toInt := i_sub (by decide) rfl (lg_X9_hasRoomFor_0 v1 yv) ex_2
  refine lv_icmp_gt (tgt := 16) hx hb dX9_hasRoomFor_9 (by decide) (fun c_4 => ?_) (fun c_4 => ?_)
  · have t_5 : x_1.toInt < n_ta.toInt := i_lt rfl rfl c_4
    refine lv_iconst (v := 0) hx hb dX9_hasRoomFor_16 (by decide) ?_
    refine W.widen (k := 0) (n := 0) (Nat.le_of_ble_eq_true rfl) (Nat.le_of_ble_eq_true rfl) ?_
    have hP9 := hP.sub (ws' := [(h0, .inr (9, [.ref p_bytes, .ref p_ts, .ref p_tc, .int n_ta, .int n_to, .int n_tl]))]) [0] rfl
    have hD9 := hD.sub (ws' := [(h0, .inr (9, [.ref p_bytes, .ref p_ts, .ref p_tc, .int n_ta, .int n_to, .int n_tl]))]) [0] (by decide) rfl
    have hK9 := hK.sub (tys' := []) [] rfl
    exact W.zret (ty := .boolean) (v := 0) hx hb hr rfl (fun t ht hW => ⟨⟨0, (), rfl, (Or.inr (⟨rfl, (lg_X9_hasRoomFor_1 n_ta v1 x_1 yv t_3 t_5)⟩)), ⟨by rw [ht]; exact hP9, va_K.moved hW.alike hK9, hD9⟩⟩, hS.F ht⟩) hS.2.2 dX9_hasRoomFor_17
  · have t_5 : n_ta.toInt ≤ x_1.toInt := i_nlt rfl rfl c_4
    refine lv_iconst (v := 1) hx hb dX9_hasRoomFor_12 (by decide) ?_
    refine lv_goto (tgt := 17) hx hb dX9_hasRoomFor_13 (by decide) ?_
    refine W.widen (k := 0) (n := 0) (Nat.le_of_ble_eq_true rfl) (Nat.le_of_ble_eq_true rfl) ?_
    have hP9 := hP.sub (ws' := [(h0, .inr (9, [.ref p_bytes, .ref p_ts, .ref p_tc, .int n_ta, .int n_to, .int n_tl]))]) [0] rfl
    have hD9 := hD.sub (ws' := [(h0, .inr (9, [.ref p_bytes, .ref p_ts, .ref p_tc, .int n_ta, .int n_to, .int n_tl]))]) [0] (by decide) rfl
    have hK9 := hK.sub (tys' := []) [] rfl
    exact W.zret (ty := .boolean) (v := 1) hx hb hr rfl (fun t ht hW => ⟨⟨1, (), rfl, (Or.inl ⟨rfl, (lg_X9_hasRoomFor_2 n_ta v1 x_1 yv t_3 t_5)⟩), ⟨by rw [ht]; exact hP9, va_K.moved hW.alike hK9, hD9⟩⟩, hS.F ht⟩) hS.2.2 dX9_hasRoomFor_17

set_option maxHeartbeats 4000000 in
set_option maxRecDepth 100000 in
theorem kX9_clear (l : Launch) (dC : Nat → ClassId) (dI : Nat → Nat → Nat) (sz : Nat) (h0 : Nat) (p_bytes : Nat) (p_ts : Nat) (p_tc : Nat) (n_ta : Int32) (n_to : Int32) (n_tl : Int32) : Met l yX9_clear (Cond.code yX9_clear cX9_clear 1 none :: bg) ({ frames := 0, cells := 0, slots := 0, locals := 0 }) (pcW dC dI [.ref h0] sz [(h0, .inr (9, [.ref p_bytes, .ref p_ts, .ref p_tc, .int n_ta, .int n_to, .int n_tl]))] []) (va_Qv (fun (u : Unit) => True) (fun (u : Unit) (t : State) => va_P (dC, dI) vwCl [(h0, .inr (9, [.ref p_bytes, .ref p_ts, .ref p_tc, .int 0, .int n_to, .int n_tl]))] t.heap ∧ va_K (dC, dI) vwCl [] t ∧ va_D (va_A [(h0, .inr (9, [.ref p_bytes, .ref p_ts, .ref p_tc, .int n_ta, .int n_to, .int n_tl]))] sz) [(h0, .inr (9, [.ref p_bytes, .ref p_ts, .ref p_tc, .int 0, .int n_to, .int n_tl]))]) (va_A [(h0, .inr (9, [.ref p_bytes, .ref p_ts, .ref p_tc, .int n_ta, .int n_to, .int n_tl]))] sz)) 0 0 (va_A [(h0, .inr (9, [.ref p_bytes, .ref p_ts, .ref p_tc, .int n_ta, .int n_to, .int n_tl]))] sz) := by
  refine Met.ofW (cc := cX9_clear) (maxL := 1) (ret := none) pnX9 rfl ?_
  intro p e s m args below meth c s₁ B hml hv
  obtain ⟨rfl, hsz, hP, hK, hD0, hN⟩ := hv
  have hx := B.exec
  have hb := B.bytes
  have hr := B.returns
  have htb : ∀ w ∈ bg, w.before [.ref h0].toArray s = true := fun w h => atoms_spec (ws := Cond.code yX9_clear cX9_clear 1 none :: bg) B.pre w (List.mem_cons_of_mem _ h)
  have hown : s.vm.findClass RX9 = some m.cls := findClass_of_methodNamed B.named
  have hlocks := B.notSynchronized
  subst hsz
  have hD := hD0.self (sz := s.heap.size)
  generalize hAe : va_A [(h0, .inr (9, [.ref p_bytes, .ref p_ts, .ref p_tc, .int n_ta, .int n_to, .int n_tl]))] s.heap.size = A at hD ⊢
  have hA : ∀ q : Nat, s.heap.size ≤ q → A q := fun q h => by rw [← hAe]; exact Or.inr h
  have hS : va_S A s.heap s.heap [] := va_S.rf
  have hl := lv_entry ([.ref h0]) (n := 1) (Nat.le_of_ble_eq_true rfl)
  rw [lg_entry_eq]
  generalize (lg_sl ([.ref h0]) ++ List.replicate (1 - (lg_sl ([.ref h0])).length) Slot.unset).toArray = ls at hl ⊢
  change lv_has ls 1 [(0, .ref h0)] at hl
  clear hD0 hAe
  refine go0 (wsP := fun H => va_P (dC, dI) vwCl [(h0, .inr (9, [.ref p_bytes, .ref p_ts, .ref p_tc, .int n_ta, .int n_to, .int n_tl]))] H) hP hS ?_
  clear hP hS; intro H locs hP hS
  change va_P (dC, dI) vwCl [(h0, .inr (9, [.ref p_bytes, .ref p_ts, .ref p_tc, .int n_ta, .int n_to, .int n_tl]))] H at hP
  refine lv_aload_n hx hb dX9_clear_0 rfl (lv_at hl 0 rfl) ?_
  refine lv_iconst (v := 0) hx hb dX9_clear_1 (by decide) ?_
  refine va_put (D := (dC, dI)) (ci := 9) (v := .int 0) (C := RX9) (T := TX9) (N := 6) hx hb htb iX9 tyX9 tyX9_ok nmX9 hown hK hP hD hS 0 rfl rfl 3 (Nat.le_of_ble_eq_true rfl) (htb _ m_239) (fun _ h9 => h9) rfl (tyX9_ok 3 (Nat.le_of_ble_eq_true rfl)) rfl rfl (Nat.le_of_ble_eq_true rfl) dX9_clear_2 ?_
  clear hP hD hS; intro H locs hP hD hS
  change va_P (dC, dI) vwCl [(h0, .inr (9, [.ref p_bytes, .ref p_ts, .ref p_tc, .int 0, .int n_to, .int n_tl]))] H at hP
  change va_D A [(h0, .inr (9, [.ref p_bytes, .ref p_ts, .ref p_tc, .int 0, .int n_to, .int n_tl]))] at hD
  refine W.widen (k := 0) (n := 0) (Nat.le_of_ble_eq_true rfl) (Nat.le_of_ble_eq_true rfl) ?_
  have hP9 := hP.sub (ws' := [(h0, .inr (9, [.ref p_bytes, .ref p_ts, .ref p_tc, .int 0, .int n_to, .int n_tl]))]) [0] rfl
  have hD9 := hD.sub (ws' := [(h0, .inr (9, [.ref p_bytes, .ref p_ts, .ref p_tc, .int 0, .int n_to, .int n_tl]))]) [0] (by decide) rfl
  have hK9 := hK.sub (tys' := []) [] rfl
  exact W.vret hx hb hr (fun t ht hW => ⟨⟨(), rfl, trivial, ⟨by rw [ht]; exact hP9, va_K.moved hW.alike hK9, hD9⟩⟩, hS.F ht⟩) hS.2.2 dX9_clear_5

theorem lg_X9_hasToken_0 (n_to : Int32) (v1 : Int32) (t_2 : v1.toInt < (0 : Int)) : ¬ (0 ≤ v1.toInt ∧ v1.toInt < n_to.toInt) := by
  have := rg_rng n_to; have := rg_rng v1; omega
theorem lg_X9_hasToken_1 (n_to : Int32) (v1 : Int32) (t_2 : (0 : Int) ≤ v1.toInt) (t_4 : n_to.toInt ≤ v1.toInt) : ¬ (0 ≤ v1.toInt ∧ v1.toInt < n_to.toInt) := by
  have := rg_rng n_to; have := rg_rng v1; omega
theorem lg_X9_hasToken_2 (n_to : Int32) (v1 : Int32) (t_2 : (0 : Int) ≤ v1.toInt) (t_4 : v1.toInt < n_to.toInt) : 0 ≤ v1.toInt ∧ v1.toInt < n_to.toInt := by
  have := rg_rng n_to; have := rg_rng v1; omega
set_option maxHeartbeats 4000000 in
set_option maxRecDepth 100000 in
theorem kX9_hasToken (l : Launch) (dC : Nat → ClassId) (dI : Nat → Nat → Nat) (sz : Nat) (h0 : Nat) (p_bytes : Nat) (p_ts : Nat) (p_tc : Nat) (n_ta : Int32) (n_to : Int32) (n_tl : Int32) (v1 : Int32) : Met l yX9_hasToken (Cond.code yX9_hasToken cX9_hasToken 2 (some .boolean) :: bg) ({ frames := 0, cells := 0, slots := 0, locals := 0 }) (pcW dC dI [.ref h0, .int v1] sz [(h0, .inr (9, [.ref p_bytes, .ref p_ts, .ref p_tc, .int n_ta, .int n_to, .int n_tl]))] []) (va_Qi (fun (r : Int32) (u : Unit) => (r = 1 ∧ 0 ≤ v1.toInt ∧ v1.toInt < n_to.toInt) ∨ (r = 0 ∧ ¬ (0 ≤ v1.toInt ∧ v1.toInt < n_to.toInt))) (fun (u : Unit) (t : State) => va_P (dC, dI) vwCl [(h0, .inr (9, [.ref p_bytes, .ref p_ts, .ref p_tc, .int n_ta, .int n_to, .int n_tl]))] t.heap ∧ va_K (dC, dI) vwCl [] t ∧ va_D (va_A [(h0, .inr (9, [.ref p_bytes, .ref p_ts, .ref p_tc, .int n_ta, .int n_to, .int n_tl]))] sz) [(h0, .inr (9, [.ref p_bytes, .ref p_ts, .ref p_tc, .int n_ta, .int n_to, .int n_tl]))]) (va_A [(h0, .inr (9, [.ref p_bytes, .ref p_ts, .ref p_tc, .int n_ta, .int n_to, .int n_tl]))] sz)) 0 0 (va_A [(h0, .inr (9, [.ref p_bytes, .ref p_ts, .ref p_tc, .int n_ta, .int n_to, .int n_tl]))] sz) := by
  refine Met.ofW (cc := cX9_hasToken) (maxL := 2) (ret := (some .boolean)) pnX9 rfl ?_
  intro p e s m args below meth c s₁ B hml hv
  obtain ⟨rfl, hsz, hP, hK, hD0, hN⟩ := hv
  have hx := B.exec
  have hb := B.bytes
  have hr := B.returns
  have htb : ∀ w ∈ bg, w.before [.ref h0, .int v1].toArray s = true := fun w h => atoms_spec (ws := Cond.code yX9_hasToken cX9_hasToken 2 (some .boolean) :: bg) B.pre w (List.mem_cons_of_mem _ h)
  have hown : s.vm.findClass RX9 = some m.cls := findClass_of_methodNamed B.named
  have hlocks := B.notSynchronized
  subst hsz
  have hD := hD0.self (sz := s.heap.size)
  generalize hAe : va_A [(h0, .inr (9, [.ref p_bytes, .ref p_ts, .ref p_tc, .int n_ta, .int n_to, .int n_tl]))] s.heap.size = A at hD ⊢
  have hA : ∀ q : Nat, s.heap.size ≤ q → A q := fun q h => by rw [← hAe]; exact Or.inr h
  have hS : va_S A s.heap s.heap [] := va_S.rf
  have hl := lv_entry ([.ref h0, .int v1]) (n := 2) (Nat.le_of_ble_eq_true rfl)
  rw [lg_entry_eq]
  generalize (lg_sl ([.ref h0, .int v1]) ++ List.replicate (2 - (lg_sl ([.ref h0, .int v1])).length) Slot.unset).toArray = ls at hl ⊢
  change lv_has ls 2 [(0, .ref h0), (1, .int v1)] at hl
  clear hD0 hAe
  refine go0 (wsP := fun H => va_P (dC, dI) vwCl [(h0, .inr (9, [.ref p_bytes, .ref p_ts, .ref p_tc, .int n_ta, .int n_to, .int n_tl]))] H) hP hS ?_
  clear hP hS; intro H locs hP hS
  change va_P (dC, dI) vwCl [(h0, .inr (9, [.ref p_bytes, .ref p_ts, .ref p_tc, .int n_ta, .int n_to, .int n_tl]))] H at hP
  refine lv_iload_n hx hb dX9_hasToken_0 rfl (lv_at hl 1 rfl) ?_
  refine lv_if_lt (tgt := 16) hx hb dX9_hasToken_1 (by decide) (fun c_1 => ?_) (fun c_1 => ?_)
  · have t_2 : v1.toInt < (0 : Int) := i_lt rfl (by decide) c_1
    refine lv_iconst (v := 0) hx hb dX9_hasToken_16 (by decide) ?_
    refine W.widen (k := 0) (n := 0) (Nat.le_of_ble_eq_true rfl) (Nat.le_of_ble_eq_true rfl) ?_
    have hP9 := hP.sub (ws' := [(h0, .inr (9, [.ref p_bytes, .ref p_ts, .ref p_tc, .int n_ta, .int n_to, .int n_tl]))]) [0] rfl
    have hD9 := hD.sub (ws' := [(h0, .inr (9, [.ref p_bytes, .ref p_ts, .ref p_tc, .int n_ta, .int n_to, .int n_tl]))]) [0] (by decide) rfl
    have hK9 := hK.sub (tys' := []) [] rfl
    exact W.zret (ty := .boolean) (v := 0) hx hb hr rfl (fun t ht hW => ⟨⟨0, (), rfl, (Or.inr (⟨rfl, (lg_X9_hasToken_0 n_to v1 t_2)⟩)), ⟨by rw [ht]; exact hP9, va_K.moved hW.alike hK9, hD9⟩⟩, hS.F ht⟩) hS.2.2 dX9_hasToken_17
  · have t_2 : (0 : Int) ≤ v1.toInt := i_nlt rfl (by decide) c_1
    refine lv_iload_n hx hb dX9_hasToken_4 rfl (lv_at hl 1 rfl) ?_
    refine lv_aload_n hx hb dX9_hasToken_5 rfl (lv_at hl 0 rfl) ?_
    refine va_get (D := (dC, dI)) (ci := 9) (v := .int n_to) (C := RX9) (T := TX9) (N := 6) hx hb htb iX9 hown hK hP 0 rfl rfl 4 (Nat.le_of_ble_eq_true rfl) (htb _ m_241) (fun _ h9 => h9) rfl dX9_hasToken_6 ?_
    refine lv_icmp_ge (tgt := 16) hx hb dX9_hasToken_9 (by decide) (fun c_3 => ?_) (fun c_3 => ?_)
    · have t_4 : n_to.toInt ≤ v1.toInt := i_le rfl rfl c_3
      refine lv_iconst (v := 0) hx hb dX9_hasToken_16 (by decide) ?_
      refine W.widen (k := 0) (n := 0) (Nat.le_of_ble_eq_true rfl) (Nat.le_of_ble_eq_true rfl) ?_
      have hP9 := hP.sub (ws' := [(h0, .inr (9, [.ref p_bytes, .ref p_ts, .ref p_tc, .int n_ta, .int n_to, .int n_tl]))]) [0] rfl
      have hD9 := hD.sub (ws' := [(h0, .inr (9, [.ref p_bytes, .ref p_ts, .ref p_tc, .int n_ta, .int n_to, .int n_tl]))]) [0] (by decide) rfl
      have hK9 := hK.sub (tys' := []) [] rfl
      exact W.zret (ty := .boolean) (v := 0) hx hb hr rfl (fun t ht hW => ⟨⟨0, (), rfl, (Or.inr (⟨rfl, (lg_X9_hasToken_1 n_to v1 t_2 t_4)⟩)), ⟨by rw [ht]; exact hP9, va_K.moved hW.alike hK9, hD9⟩⟩, hS.F ht⟩) hS.2.2 dX9_hasToken_17
    · have t_4 : v1.toInt < n_to.toInt := i_nle rfl rfl c_3
      refine lv_iconst (v := 1) hx hb dX9_hasToken_12 (by decide) ?_
      refine lv_goto (tgt := 17) hx hb dX9_hasToken_13 (by decide) ?_
      refine W.widen (k := 0) (n := 0) (Nat.le_of_ble_eq_true rfl) (Nat.le_of_ble_eq_true rfl) ?_
      have hP9 := hP.sub (ws' := [(h0, .inr (9, [.ref p_bytes, .ref p_ts, .ref p_tc, .int n_ta, .int n_to, .int n_tl]))]) [0] rfl
      have hD9 := hD.sub (ws' := [(h0, .inr (9, [.ref p_bytes, .ref p_ts, .ref p_tc, .int n_ta, .int n_to, .int n_tl]))]) [0] (by decide) rfl
      have hK9 := hK.sub (tys' := []) [] rfl
      exact W.zret (ty := .boolean) (v := 1) hx hb hr rfl (fun t ht hW => ⟨⟨1, (), rfl, (Or.inl ⟨rfl, (lg_X9_hasToken_2 n_to v1 t_2 t_4)⟩), ⟨by rw [ht]; exact hP9, va_K.moved hW.alike hK9, hD9⟩⟩, hS.F ht⟩) hS.2.2 dX9_hasToken_17

theorem lg_X5_allHold_0 (v1 : Int32) (yv : 0 ≤ v1.toInt ∧ v1.toInt < 16) : (3 - (0 : Int)) < ((Int.toNat (3 - (0 : Int)) + 1 : Nat) : Int) := by
  have := rg_rng v1; omega
theorem lg_X5_allHold_1 (v1 : Int32) (yv : 0 ≤ v1.toInt ∧ v1.toInt < 16) : 0 ≤ (0 : Int) ∧ (0 : Int) ≤ 3 := by
  have := rg_rng v1; omega
theorem lg_X5_allHold_2 (v1 : Int32) (i_1 : Int32) (yv : 0 ≤ v1.toInt ∧ v1.toInt < 16) (hi1_0 : 0 ≤ i_1.toInt ∧ i_1.toInt ≤ 3) (hmu1 : (3 - i_1.toInt) < ((0 : Nat) : Int)) : False := by
  have := rg_rng v1; have := rg_rng i_1; omega
theorem lg_X5_allHold_3 (v1 : Int32) (i_1 : Int32) (n1 : Nat) (yv : 0 ≤ v1.toInt ∧ v1.toInt < 16) (hi1_0 : 0 ≤ i_1.toInt ∧ i_1.toInt ≤ 3) (hmu1 : (3 - i_1.toInt) < ((n1 + 1 : Nat) : Int)) : 0 ≤ v1.toInt ∧ v1.toInt < ((16 : Nat) : Int) := by
  have := rg_rng v1; have := rg_rng i_1; omega
theorem lg_X5_allHold_4 (v1 : Int32) (i_1 : Int32) (n1 : Nat) (x_2 : Int32) (yv : 0 ≤ v1.toInt ∧ v1.toInt < 16) (hi1_0 : 0 ≤ i_1.toInt ∧ i_1.toInt ≤ 3) (hmu1 : (3 - i_1.toInt) < ((n1 + 1 : Nat) : Int)) (t_4 : 0 ≤ x_2.toInt ∧ x_2.toInt ≤ 3) (t_6 : x_2.toInt ≤ i_1.toInt) : True := by
  have := rg_rng v1; have := rg_rng i_1; have := rg_rng x_2; trivial
theorem lg_X5_allHold_5 (v1 : Int32) (i_1 : Int32) (n1 : Nat) (x_2 : Int32) (yv : 0 ≤ v1.toInt ∧ v1.toInt < 16) (hi1_0 : 0 ≤ i_1.toInt ∧ i_1.toInt ≤ 3) (hmu1 : (3 - i_1.toInt) < ((n1 + 1 : Nat) : Int)) (t_4 : 0 ≤ x_2.toInt ∧ x_2.toInt ≤ 3) (t_6 : i_1.toInt < x_2.toInt) : -2147483648 ≤ v1.toInt * (3 : Int) ∧ v1.toInt * (3 : Int) < 2147483648 := by
  have := rg_rng v1; have := rg_rng i_1; have := rg_rng x_2; omega
theorem lg_X5_allHold_6 (v1 : Int32) (i_1 : Int32) (n1 : Nat) (x_2 : Int32) (x_7 : Int32) (yv : 0 ≤ v1.toInt ∧ v1.toInt < 16) (hi1_0 : 0 ≤ i_1.toInt ∧ i_1.toInt ≤ 3) (hmu1 : (3 - i_1.toInt) < ((n1 + 1 : Nat) : Int)) (t_4 : 0 ≤ x_2.toInt ∧ x_2.toInt ≤ 3) (t_6 : i_1.toInt < x_2.toInt) (t_9 : x_7.toInt = v1.toInt * (3 : Int)) : -2147483648 ≤ x_7.toInt + i_1.toInt ∧ x_7.toInt + i_1.toInt < 2147483648 := by
  have := rg_rng v1; have := rg_rng i_1; have := rg_rng x_2; have := rg_rng x_7; omega
theorem lg_X5_allHold_7 (v1 : Int32) (i_1 : Int32) (n1 : Nat) (x_2 : Int32) (x_7 : Int32) (x_10 : Int32) (yv : 0 ≤ v1.toInt ∧ v1.toInt < 16) (hi1_0 : 0 ≤ i_1.toInt ∧ i_1.toInt ≤ 3) (hmu1 : (3 - i_1.toInt) < ((n1 + 1 : Nat) : Int)) (t_4 : 0 ≤ x_2.toInt ∧ x_2.toInt ≤ 3) (t_6 : i_1.toInt < x_2.toInt) (t_9 : x_7.toInt = v1.toInt * (3 : Int)) (t_12 : x_10.toInt = x_7.toInt + i_1.toInt) : 0 ≤ x_10.toInt ∧ x_10.toInt < ((48 : Nat) : Int) := by
  have := rg_rng v1; have := rg_rng i_1; have := rg_rng x_2; have := rg_rng x_7; have := rg_rng x_10; omega
theorem lg_X5_allHold_8 (v1 : Int32) (i_1 : Int32) (n1 : Nat) (x_2 : Int32) (x_7 : Int32) (x_10 : Int32) (x_13 : Int32) (yv : 0 ≤ v1.toInt ∧ v1.toInt < 16) (hi1_0 : 0 ≤ i_1.toInt ∧ i_1.toInt ≤ 3) (hmu1 : (3 - i_1.toInt) < ((n1 + 1 : Nat) : Int)) (t_4 : 0 ≤ x_2.toInt ∧ x_2.toInt ≤ 3) (t_6 : i_1.toInt < x_2.toInt) (t_9 : x_7.toInt = v1.toInt * (3 : Int)) (t_12 : x_10.toInt = x_7.toInt + i_1.toInt) (t_16 : x_13.toInt < (0 : Int)) : True := by
  have := rg_rng v1; have := rg_rng i_1; have := rg_rng x_2; have := rg_rng x_7; have := rg_rng x_10; have := rg_rng x_13; trivial
theorem lg_X5_allHold_9 (v1 : Int32) (i_1 : Int32) (n1 : Nat) (x_2 : Int32) (x_7 : Int32) (x_10 : Int32) (x_13 : Int32) (yv : 0 ≤ v1.toInt ∧ v1.toInt < 16) (hi1_0 : 0 ≤ i_1.toInt ∧ i_1.toInt ≤ 3) (hmu1 : (3 - i_1.toInt) < ((n1 + 1 : Nat) : Int)) (t_4 : 0 ≤ x_2.toInt ∧ x_2.toInt ≤ 3) (t_6 : i_1.toInt < x_2.toInt) (t_9 : x_7.toInt = v1.toInt * (3 : Int)) (t_12 : x_10.toInt = x_7.toInt + i_1.toInt) (t_16 : (0 : Int) ≤ x_13.toInt) (t_18 : (6 : Int) ≤ x_13.toInt) : True := by
  have := rg_rng v1; have := rg_rng i_1; have := rg_rng x_2; have := rg_rng x_7; have := rg_rng x_10; have := rg_rng x_13; trivial
theorem lg_X5_allHold_10 (v1 : Int32) (i_1 : Int32) (n1 : Nat) (x_2 : Int32) (x_7 : Int32) (x_10 : Int32) (x_13 : Int32) (yv : 0 ≤ v1.toInt ∧ v1.toInt < 16) (hi1_0 : 0 ≤ i_1.toInt ∧ i_1.toInt ≤ 3) (hmu1 : (3 - i_1.toInt) < ((n1 + 1 : Nat) : Int)) (t_4 : 0 ≤ x_2.toInt ∧ x_2.toInt ≤ 3) (t_6 : i_1.toInt < x_2.toInt) (t_9 : x_7.toInt = v1.toInt * (3 : Int)) (t_12 : x_10.toInt = x_7.toInt + i_1.toInt) (t_16 : (0 : Int) ≤ x_13.toInt) (t_18 : x_13.toInt < (6 : Int)) : 0 ≤ x_13.toInt ∧ x_13.toInt < ((6 : Nat) : Int) := by
  have := rg_rng v1; have := rg_rng i_1; have := rg_rng x_2; have := rg_rng x_7; have := rg_rng x_10; have := rg_rng x_13; omega
theorem lg_X5_allHold_11 (v1 : Int32) (i_1 : Int32) (n1 : Nat) (x_2 : Int32) (x_7 : Int32) (x_10 : Int32) (x_13 : Int32) (yv : 0 ≤ v1.toInt ∧ v1.toInt < 16) (hi1_0 : 0 ≤ i_1.toInt ∧ i_1.toInt ≤ 3) (hmu1 : (3 - i_1.toInt) < ((n1 + 1 : Nat) : Int)) (t_4 : 0 ≤ x_2.toInt ∧ x_2.toInt ≤ 3) (t_6 : i_1.toInt < x_2.toInt) (t_9 : x_7.toInt = v1.toInt * (3 : Int)) (t_12 : x_10.toInt = x_7.toInt + i_1.toInt) (t_16 : (0 : Int) ≤ x_13.toInt) (t_18 : x_13.toInt < (6 : Int)) : 0 ≤ x_10.toInt ∧ x_10.toInt < ((48 : Nat) : Int) := by
  have := rg_rng v1; have := rg_rng i_1; have := rg_rng x_2; have := rg_rng x_7; have := rg_rng x_10; have := rg_rng x_13; omega
theorem lg_X5_allHold_12 (v1 : Int32) (i_1 : Int32) (n1 : Nat) (x_2 : Int32) (x_7 : Int32) (x_10 : Int32) (x_13 : Int32) (yv : 0 ≤ v1.toInt ∧ v1.toInt < 16) (hi1_0 : 0 ≤ i_1.toInt ∧ i_1.toInt ≤ 3) (hmu1 : (3 - i_1.toInt) < ((n1 + 1 : Nat) : Int)) (t_4 : 0 ≤ x_2.toInt ∧ x_2.toInt ≤ 3) (t_6 : i_1.toInt < x_2.toInt) (t_9 : x_7.toInt = v1.toInt * (3 : Int)) (t_12 : x_10.toInt = x_7.toInt + i_1.toInt) (t_16 : (0 : Int) ≤ x_13.toInt) (t_18 : x_13.toInt < (6 : Int)) (h_26 : True) : -2147483648 ≤ i_1.toInt + 1 ∧ i_1.toInt + 1 < 2147483648 := by
  have := rg_rng v1; have := rg_rng i_1; have := rg_rng x_2; have := rg_rng x_7; have := rg_rng x_10; have := rg_rng x_13; omega
theorem lg_X5_allHold_13 (v1 : Int32) (i_1 : Int32) (n1 : Nat) (x_2 : Int32) (x_7 : Int32) (x_10 : Int32) (x_13 : Int32) (x_28 : Int32) (yv : 0 ≤ v1.toInt ∧ v1.toInt < 16) (hi1_0 : 0 ≤ i_1.toInt ∧ i_1.toInt ≤ 3) (hmu1 : (3 - i_1.toInt) < ((n1 + 1 : Nat) : Int)) (t_4 : 0 ≤ x_2.toInt ∧ x_2.toInt ≤ 3) (t_6 : i_1.toInt < x_2.toInt) (t_9 : x_7.toInt = v1.toInt * (3 : Int)) (t_12 : x_10.toInt = x_7.toInt + i_1.toInt) (t_16 : (0 : Int) ≤ x_13.toInt) (t_18 : x_13.toInt < (6 : Int)) (h_26 : True) (t_30 : x_28.toInt = i_1.toInt + 1) : (3 - x_28.toInt) < (n1 : Int) := by
  have := rg_rng v1; have := rg_rng i_1; have := rg_rng x_2; have := rg_rng x_7; have := rg_rng x_10; have := rg_rng x_13; have := rg_rng x_28; omega
theorem lg_X5_allHold_14 (v1 : Int32) (i_1 : Int32) (n1 : Nat) (x_2 : Int32) (x_7 : Int32) (x_10 : Int32) (x_13 : Int32) (x_28 : Int32) (yv : 0 ≤ v1.toInt ∧ v1.toInt < 16) (hi1_0 : 0 ≤ i_1.toInt ∧ i_1.toInt ≤ 3) (hmu1 : (3 - i_1.toInt) < ((n1 + 1 : Nat) : Int)) (t_4 : 0 ≤ x_2.toInt ∧ x_2.toInt ≤ 3) (t_6 : i_1.toInt < x_2.toInt) (t_9 : x_7.toInt = v1.toInt * (3 : Int)) (t_12 : x_10.toInt = x_7.toInt + i_1.toInt) (t_16 : (0 : Int) ≤ x_13.toInt) (t_18 : x_13.toInt < (6 : Int)) (h_26 : True) (t_30 : x_28.toInt = i_1.toInt + 1) : 0 ≤ x_28.toInt ∧ x_28.toInt ≤ 3 := by
  have := rg_rng v1; have := rg_rng i_1; have := rg_rng x_2; have := rg_rng x_7; have := rg_rng x_10; have := rg_rng x_13; have := rg_rng x_28; omega
theorem lg_X5_allHold_15 (v1 : Int32) (i_1 : Int32) (n1 : Nat) (x_2 : Int32) (x_7 : Int32) (x_10 : Int32) (x_13 : Int32) (yv : 0 ≤ v1.toInt ∧ v1.toInt < 16) (hi1_0 : 0 ≤ i_1.toInt ∧ i_1.toInt ≤ 3) (hmu1 : (3 - i_1.toInt) < ((n1 + 1 : Nat) : Int)) (t_4 : 0 ≤ x_2.toInt ∧ x_2.toInt ≤ 3) (t_6 : i_1.toInt < x_2.toInt) (t_9 : x_7.toInt = v1.toInt * (3 : Int)) (t_12 : x_10.toInt = x_7.toInt + i_1.toInt) (t_16 : (0 : Int) ≤ x_13.toInt) (t_18 : x_13.toInt < (6 : Int)) (h_26 : True) : True := by
  have := rg_rng v1; have := rg_rng i_1; have := rg_rng x_2; have := rg_rng x_7; have := rg_rng x_10; have := rg_rng x_13; trivial
set_option maxHeartbeats 4000000 in
set_option maxRecDepth 100000 in
theorem kX5_allHold (l : Launch) (dC : Nat → ClassId) (dI : Nat → Nat → Nat) (sz : Nat) (h0 : Nat) (b_deed : Nat) (b_value : Nat) (b_tests : Nat) (b_thing : Nat) (b_sign : Nat) (b_number : Nat) (n_bk : Int32) (k_tests : ClassId) (k_thing : ClassId) (k_sign : ClassId) (k_number : ClassId) (f_tests : Nat → Int32) (f_thing : Nat → Int32) (f_sign : Nat → Int32) (f_number : Nat → Int32) (a_fa : Nat) (k_fa : ClassId) (f_fa : Nat → Int32) (v1 : Int32) (yt : Rg f_tests 16 0 3) (yv : 0 ≤ v1.toInt ∧ v1.toInt < 16) : Met l yX5_allHold (Cond.code yX5_allHold cX5_allHold 6 (some .boolean) :: bg) ({ frames := 1, cells := 0, slots := 0, locals := 22 }) (pcW dC dI [.ref h0, .int v1, .ref a_fa] sz [(h0, .inr (5, [.ref b_deed, .ref b_value, .ref b_tests, .ref b_thing, .ref b_sign, .ref b_number, .int n_bk])), (b_tests, .inl (k_tests, 16, .inl f_tests)), (b_thing, .inl (k_thing, 48, .inl f_thing)), (b_sign, .inl (k_sign, 48, .inl f_sign)), (b_number, .inl (k_number, 48, .inl f_number)), (a_fa, .inl (k_fa, 6, .inl f_fa))] [(k_tests, .int), (k_thing, .int), (k_sign, .int), (k_number, .int), (k_fa, .int)]) (va_Qi (fun (r : Int32) (u : Unit) => (r = 1 ∧ True) ∨ (r = 0 ∧ True)) (fun (u : Unit) (t : State) => va_P (dC, dI) vwCl [(h0, .inr (5, [.ref b_deed, .ref b_value, .ref b_tests, .ref b_thing, .ref b_sign, .ref b_number, .int n_bk])), (b_tests, .inl (k_tests, 16, .inl f_tests)), (b_thing, .inl (k_thing, 48, .inl f_thing)), (b_sign, .inl (k_sign, 48, .inl f_sign)), (b_number, .inl (k_number, 48, .inl f_number)), (a_fa, .inl (k_fa, 6, .inl f_fa))] t.heap ∧ va_K (dC, dI) vwCl [(k_tests, .int), (k_thing, .int), (k_sign, .int), (k_number, .int), (k_fa, .int)] t ∧ va_D (va_A [(h0, .inr (5, [.ref b_deed, .ref b_value, .ref b_tests, .ref b_thing, .ref b_sign, .ref b_number, .int n_bk])), (b_tests, .inl (k_tests, 16, .inl f_tests)), (b_thing, .inl (k_thing, 48, .inl f_thing)), (b_sign, .inl (k_sign, 48, .inl f_sign)), (b_number, .inl (k_number, 48, .inl f_number)), (a_fa, .inl (k_fa, 6, .inl f_fa))] sz) [(h0, .inr (5, [.ref b_deed, .ref b_value, .ref b_tests, .ref b_thing, .ref b_sign, .ref b_number, .int n_bk])), (b_tests, .inl (k_tests, 16, .inl f_tests)), (b_thing, .inl (k_thing, 48, .inl f_thing)), (b_sign, .inl (k_sign, 48, .inl f_sign)), (b_number, .inl (k_number, 48, .inl f_number)), (a_fa, .inl (k_fa, 6, .inl f_fa))]) (va_A [(h0, .inr (5, [.ref b_deed, .ref b_value, .ref b_tests, .ref b_thing, .ref b_sign, .ref b_number, .int n_bk])), (b_tests, .inl (k_tests, 16, .inl f_tests)), (b_thing, .inl (k_thing, 48, .inl f_thing)), (b_sign, .inl (k_sign, 48, .inl f_sign)), (b_number, .inl (k_number, 48, .inl f_number)), (a_fa, .inl (k_fa, 6, .inl f_fa))] sz)) 0 0 (va_A [(h0, .inr (5, [.ref b_deed, .ref b_value, .ref b_tests, .ref b_thing, .ref b_sign, .ref b_number, .int n_bk])), (b_tests, .inl (k_tests, 16, .inl f_tests)), (b_thing, .inl (k_thing, 48, .inl f_thing)), (b_sign, .inl (k_sign, 48, .inl f_sign)), (b_number, .inl (k_number, 48, .inl f_number)), (a_fa, .inl (k_fa, 6, .inl f_fa))] sz) := by
  refine Met.ofW (cc := cX5_allHold) (maxL := 6) (ret := (some .boolean)) pnX5 rfl ?_
  intro p e s m args below meth c s₁ B hml hv
  obtain ⟨rfl, hsz, hP, hK, hD0, hN⟩ := hv
  have hx := B.exec
  have hb := B.bytes
  have hr := B.returns
  have htb : ∀ w ∈ bg, w.before [.ref h0, .int v1, .ref a_fa].toArray s = true := fun w h => atoms_spec (ws := Cond.code yX5_allHold cX5_allHold 6 (some .boolean) :: bg) B.pre w (List.mem_cons_of_mem _ h)
  have hown : s.vm.findClass RX5 = some m.cls := findClass_of_methodNamed B.named
  have hlocks := B.notSynchronized
  subst hsz
  have hD := hD0.self (sz := s.heap.size)
  generalize hAe : va_A [(h0, .inr (5, [.ref b_deed, .ref b_value, .ref b_tests, .ref b_thing, .ref b_sign, .ref b_number, .int n_bk])), (b_tests, .inl (k_tests, 16, .inl f_tests)), (b_thing, .inl (k_thing, 48, .inl f_thing)), (b_sign, .inl (k_sign, 48, .inl f_sign)), (b_number, .inl (k_number, 48, .inl f_number)), (a_fa, .inl (k_fa, 6, .inl f_fa))] s.heap.size = A at hD ⊢
  have hA : ∀ q : Nat, s.heap.size ≤ q → A q := fun q h => by rw [← hAe]; exact Or.inr h
  have hS : va_S A s.heap s.heap [] := va_S.rf
  have hl := lv_entry ([.ref h0, .int v1, .ref a_fa]) (n := 6) (Nat.le_of_ble_eq_true rfl)
  rw [lg_entry_eq]
  generalize (lg_sl ([.ref h0, .int v1, .ref a_fa]) ++ List.replicate (6 - (lg_sl ([.ref h0, .int v1, .ref a_fa])).length) Slot.unset).toArray = ls at hl ⊢
  change lv_has ls 6 [(0, .ref h0), (1, .int v1), (2, .ref a_fa)] at hl
  clear hD0 hAe
  refine go0 (wsP := fun H => va_P (dC, dI) vwCl [(h0, .inr (5, [.ref b_deed, .ref b_value, .ref b_tests, .ref b_thing, .ref b_sign, .ref b_number, .int n_bk])), (b_tests, .inl (k_tests, 16, .inl f_tests)), (b_thing, .inl (k_thing, 48, .inl f_thing)), (b_sign, .inl (k_sign, 48, .inl f_sign)), (b_number, .inl (k_number, 48, .inl f_number)), (a_fa, .inl (k_fa, 6, .inl f_fa))] H) hP hS ?_
  clear hP hS; intro H locs hP hS
  change va_P (dC, dI) vwCl [(h0, .inr (5, [.ref b_deed, .ref b_value, .ref b_tests, .ref b_thing, .ref b_sign, .ref b_number, .int n_bk])), (b_tests, .inl (k_tests, 16, .inl f_tests)), (b_thing, .inl (k_thing, 48, .inl f_thing)), (b_sign, .inl (k_sign, 48, .inl f_sign)), (b_number, .inl (k_number, 48, .inl f_number)), (a_fa, .inl (k_fa, 6, .inl f_fa))] H at hP
  refine lv_iconst (v := 0) hx hb dX5_allHold_0 (by decide) ?_
  refine lv_istore_n (lv' := [(3, .int 0), (0, .ref h0), (1, .int v1), (2, .ref a_fa)]) hx hb dX5_allHold_1 rfl hl (by decide) rfl ?_
  clear hl; intro ls hl
  refine (fun (lp : ∀ (n1 : Nat) (i_1 : Int32) (H : Heap) (locs : List Loc) (ls : Array Slot), (3 - i_1.toInt) < (n1 : Int) → (0 ≤ i_1.toInt ∧ i_1.toInt ≤ 3) → lv_has ls 6 [(3, .int i_1), (0, .ref h0), (1, .int v1), (2, .ref a_fa)] → va_P (dC, dI) vwCl [(h0, .inr (5, [.ref b_deed, .ref b_value, .ref b_tests, .ref b_thing, .ref b_sign, .ref b_number, .int n_bk])), (b_tests, .inl (k_tests, 16, .inl f_tests)), (b_thing, .inl (k_thing, 48, .inl f_thing)), (b_sign, .inl (k_sign, 48, .inl f_sign)), (b_number, .inl (k_number, 48, .inl f_number)), (a_fa, .inl (k_fa, 6, .inl f_fa))] H → va_D A [(h0, .inr (5, [.ref b_deed, .ref b_value, .ref b_tests, .ref b_thing, .ref b_sign, .ref b_number, .int n_bk])), (b_tests, .inl (k_tests, 16, .inl f_tests)), (b_thing, .inl (k_thing, 48, .inl f_thing)), (b_sign, .inl (k_sign, 48, .inl f_sign)), (b_number, .inl (k_number, 48, .inl f_number)), (a_fa, .inl (k_fa, 6, .inl f_fa))] → va_S A s.heap H locs → W p l e _ s m _ below meth c H locs _ _ _ (F0 m 2 ls [])) => lp (Int.toNat (3 - (0 : Int)) + 1) 0   H locs ls ((lg_X5_allHold_0 v1 yv)) (lg_X5_allHold_1 v1 yv)   hl hP hD hS) ?_
  clear hP hD hS hl
  intro n1
  induction n1 with
  | zero =>
    intro i_1 H locs ls hmu1 hi1_0   hl hP hD hS
    exact False.elim (lg_X5_allHold_2 v1 i_1 yv hi1_0 hmu1)
  | succ n1 ih1 =>
    intro i_1 H locs ls hmu1 hi1_0   hl hP hD hS
    refine lv_iload_n hx hb dX5_allHold_2 rfl (lv_at hl 0 rfl) ?_
    refine lv_aload_n hx hb dX5_allHold_3 rfl (lv_at hl 1 rfl) ?_
    refine va_get (D := (dC, dI)) (ci := 5) (v := .ref b_tests) (C := RX5) (T := TX5) (N := 7) hx hb htb iX5 hown hK hP 0 rfl rfl 2 (Nat.le_of_ble_eq_true rfl) (htb _ m_281) (fun _ h9 => h9) rfl dX5_allHold_4 ?_
    refine lv_iload_n hx hb dX5_allHold_7 rfl (lv_at hl 2 rfl) ?_
    refine va_iald hx hb hK hP 1 0 rfl rfl (i_in rfl (lg_X5_allHold_3 v1 i_1 n1 yv hi1_0 hmu1)) dX5_allHold_8 ?_
    refine lv_topi (fun x_2 ex_3 => ?_)
    have t_4 : 0 ≤ x_2.toInt ∧ x_2.toInt ≤ 3 := Rg_ld yt (i_in rfl (lg_X5_allHold_3 v1 i_1 n1 yv hi1_0 hmu1)) ex_3
    refine lv_icmp_ge (tgt := 72) hx hb dX5_allHold_9 (by decide) (fun c_5 => ?_) (fun c_5 => ?_)
    · have t_6 : x_2.toInt ≤ i_1.toInt := i_le rfl rfl c_5
      refine lv_iconst (v := 1) hx hb dX5_allHold_72 (by decide) ?_
      refine W.widen (k := 0) (n := 0) (Nat.le_of_ble_eq_true rfl) (Nat.le_of_ble_eq_true rfl) ?_
      have hP9 := hP.sub (ws' := [(h0, .inr (5, [.ref b_deed, .ref b_value, .ref b_tests, .ref b_thing, .ref b_sign, .ref b_number, .int n_bk])), (b_tests, .inl (k_tests, 16, .inl f_tests)), (b_thing, .inl (k_thing, 48, .inl f_thing)), (b_sign, .inl (k_sign, 48, .inl f_sign)), (b_number, .inl (k_number, 48, .inl f_number)), (a_fa, .inl (k_fa, 6, .inl f_fa))]) [0, 1, 2, 3, 4, 5] rfl
      have hD9 := hD.sub (ws' := [(h0, .inr (5, [.ref b_deed, .ref b_value, .ref b_tests, .ref b_thing, .ref b_sign, .ref b_number, .int n_bk])), (b_tests, .inl (k_tests, 16, .inl f_tests)), (b_thing, .inl (k_thing, 48, .inl f_thing)), (b_sign, .inl (k_sign, 48, .inl f_sign)), (b_number, .inl (k_number, 48, .inl f_number)), (a_fa, .inl (k_fa, 6, .inl f_fa))]) [0, 1, 2, 3, 4, 5] (by decide) rfl
      have hK9 := hK.sub (tys' := [(k_tests, .int), (k_thing, .int), (k_sign, .int), (k_number, .int), (k_fa, .int)]) [0, 1, 2, 3, 4] rfl
      exact W.zret (ty := .boolean) (v := 1) hx hb hr rfl (fun t ht hW => ⟨⟨1, (), rfl, (Or.inl ⟨rfl, (lg_X5_allHold_4 v1 i_1 n1 x_2 yv hi1_0 hmu1 t_4 t_6)⟩), ⟨by rw [ht]; exact hP9, va_K.moved hW.alike hK9, hD9⟩⟩, hS.F ht⟩) hS.2.2 dX5_allHold_73
    · have t_6 : i_1.toInt < x_2.toInt := i_nle rfl rfl c_5
      refine lv_iload_n hx hb dX5_allHold_12 rfl (lv_at hl 2 rfl) ?_
      refine lv_iconst (v := 3) hx hb dX5_allHold_13 (by decide) ?_
      refine lv_imul hx hb dX5_allHold_14 ?_
      refine lv_topi (fun x_7 ex_8 => ?_)
      have t_9 : x_7.toInt = v1.toInt * (3 : Int) := i_mul rfl (by decide) (lg_X5_allHold_5 v1 i_1 n1 x_2 yv hi1_0 hmu1 t_4 t_6) ex_8
      refine lv_iload_n hx hb dX5_allHold_15 rfl (lv_at hl 0 rfl) ?_
      refine lv_iadd hx hb dX5_allHold_16 ?_
      refine lv_topi (fun x_10 ex_11 => ?_)
      have t_12 : x_10.toInt = x_7.toInt + i_1.toInt := i_add rfl rfl (lg_X5_allHold_6 v1 i_1 n1 x_2 x_7 yv hi1_0 hmu1 t_4 t_6 t_9) ex_11
      refine lv_istore (lv' := [(4, .int x_10), (3, .int i_1), (0, .ref h0), (1, .int v1), (2, .ref a_fa)]) hx hb dX5_allHold_17 hl (by decide) rfl ?_
      clear hl; intro ls hl
      refine lv_aload_n hx hb dX5_allHold_19 rfl (lv_at hl 2 rfl) ?_
      refine va_get (D := (dC, dI)) (ci := 5) (v := .ref b_thing) (C := RX5) (T := TX5) (N := 7) hx hb htb iX5 hown hK hP 0 rfl rfl 3 (Nat.le_of_ble_eq_true rfl) (htb _ m_282) (fun _ h9 => h9) rfl dX5_allHold_20 ?_
      refine lv_iload hx hb dX5_allHold_23 (lv_at hl 0 rfl) ?_
      refine va_iald hx hb hK hP 2 1 rfl rfl (i_in rfl (lg_X5_allHold_7 v1 i_1 n1 x_2 x_7 x_10 yv hi1_0 hmu1 t_4 t_6 t_9 t_12)) dX5_allHold_25 ?_
      refine lv_topi (fun x_13 ex_14 => ?_)
      refine lv_istore (lv' := [(5, .int x_13), (4, .int x_10), (3, .int i_1), (0, .ref h0), (1, .int v1), (2, .ref a_fa)]) hx hb dX5_allHold_26 hl (by decide) rfl ?_
      clear hl; intro ls hl
      refine lv_iload hx hb dX5_allHold_28 (lv_at hl 0 rfl) ?_
      refine lv_if_lt (tgt := 64) hx hb dX5_allHold_30 (by decide) (fun c_15 => ?_) (fun c_15 => ?_)
      · have t_16 : x_13.toInt < (0 : Int) := i_lt rfl (by decide) c_15
        refine lv_iconst (v := 0) hx hb dX5_allHold_64 (by decide) ?_
        refine W.widen (k := 0) (n := 0) (Nat.le_of_ble_eq_true rfl) (Nat.le_of_ble_eq_true rfl) ?_
        have hP9 := hP.sub (ws' := [(h0, .inr (5, [.ref b_deed, .ref b_value, .ref b_tests, .ref b_thing, .ref b_sign, .ref b_number, .int n_bk])), (b_tests, .inl (k_tests, 16, .inl f_tests)), (b_thing, .inl (k_thing, 48, .inl f_thing)), (b_sign, .inl (k_sign, 48, .inl f_sign)), (b_number, .inl (k_number, 48, .inl f_number)), (a_fa, .inl (k_fa, 6, .inl f_fa))]) [0, 1, 2, 3, 4, 5] rfl
        have hD9 := hD.sub (ws' := [(h0, .inr (5, [.ref b_deed, .ref b_value, .ref b_tests, .ref b_thing, .ref b_sign, .ref b_number, .int n_bk])), (b_tests, .inl (k_tests, 16, .inl f_tests)), (b_thing, .inl (k_thing, 48, .inl f_thing)), (b_sign, .inl (k_sign, 48, .inl f_sign)), (b_number, .inl (k_number, 48, .inl f_number)), (a_fa, .inl (k_fa, 6, .inl f_fa))]) [0, 1, 2, 3, 4, 5] (by decide) rfl
        have hK9 := hK.sub (tys' := [(k_tests, .int), (k_thing, .int), (k_sign, .int), (k_number, .int), (k_fa, .int)]) [0, 1, 2, 3, 4] rfl
        exact W.zret (ty := .boolean) (v := 0) hx hb hr rfl (fun t ht hW => ⟨⟨0, (), rfl, (Or.inr (⟨rfl, (lg_X5_allHold_8 v1 i_1 n1 x_2 x_7 x_10 x_13 yv hi1_0 hmu1 t_4 t_6 t_9 t_12 t_16)⟩)), ⟨by rw [ht]; exact hP9, va_K.moved hW.alike hK9, hD9⟩⟩, hS.F ht⟩) hS.2.2 dX5_allHold_65
      · have t_16 : (0 : Int) ≤ x_13.toInt := i_nlt rfl (by decide) c_15
        refine lv_iload hx hb dX5_allHold_33 (lv_at hl 0 rfl) ?_
        refine lv_aload_n hx hb dX5_allHold_35 rfl (lv_at hl 5 rfl) ?_
        refine va_alen (v := 6) hx hb hK hP 5 4 rfl rfl rfl dX5_allHold_36 ?_
        refine lv_icmp_ge (tgt := 64) hx hb dX5_allHold_37 (by decide) (fun c_17 => ?_) (fun c_17 => ?_)
        · have t_18 : (6 : Int) ≤ x_13.toInt := i_le (by decide) rfl c_17
          refine lv_iconst (v := 0) hx hb dX5_allHold_64 (by decide) ?_
          refine W.widen (k := 0) (n := 0) (Nat.le_of_ble_eq_true rfl) (Nat.le_of_ble_eq_true rfl) ?_
          have hP9 := hP.sub (ws' := [(h0, .inr (5, [.ref b_deed, .ref b_value, .ref b_tests, .ref b_thing, .ref b_sign, .ref b_number, .int n_bk])), (b_tests, .inl (k_tests, 16, .inl f_tests)), (b_thing, .inl (k_thing, 48, .inl f_thing)), (b_sign, .inl (k_sign, 48, .inl f_sign)), (b_number, .inl (k_number, 48, .inl f_number)), (a_fa, .inl (k_fa, 6, .inl f_fa))]) [0, 1, 2, 3, 4, 5] rfl
          have hD9 := hD.sub (ws' := [(h0, .inr (5, [.ref b_deed, .ref b_value, .ref b_tests, .ref b_thing, .ref b_sign, .ref b_number, .int n_bk])), (b_tests, .inl (k_tests, 16, .inl f_tests)), (b_thing, .inl (k_thing, 48, .inl f_thing)), (b_sign, .inl (k_sign, 48, .inl f_sign)), (b_number, .inl (k_number, 48, .inl f_number)), (a_fa, .inl (k_fa, 6, .inl f_fa))]) [0, 1, 2, 3, 4, 5] (by decide) rfl
          have hK9 := hK.sub (tys' := [(k_tests, .int), (k_thing, .int), (k_sign, .int), (k_number, .int), (k_fa, .int)]) [0, 1, 2, 3, 4] rfl
          exact W.zret (ty := .boolean) (v := 0) hx hb hr rfl (fun t ht hW => ⟨⟨0, (), rfl, (Or.inr (⟨rfl, (lg_X5_allHold_9 v1 i_1 n1 x_2 x_7 x_10 x_13 yv hi1_0 hmu1 t_4 t_6 t_9 t_12 t_16 t_18)⟩)), ⟨by rw [ht]; exact hP9, va_K.moved hW.alike hK9, hD9⟩⟩, hS.F ht⟩) hS.2.2 dX5_allHold_65
        · have t_18 : x_13.toInt < (6 : Int) := i_nle (by decide) rfl c_17
          refine lv_aload_n hx hb dX5_allHold_40 rfl (lv_at hl 5 rfl) ?_
          refine lv_iload hx hb dX5_allHold_41 (lv_at hl 0 rfl) ?_
          refine va_iald hx hb hK hP 5 4 rfl rfl (i_in rfl (lg_X5_allHold_10 v1 i_1 n1 x_2 x_7 x_10 x_13 yv hi1_0 hmu1 t_4 t_6 t_9 t_12 t_16 t_18)) dX5_allHold_43 ?_
          refine lv_topi (fun x_19 ex_20 => ?_)
          refine lv_aload_n hx hb dX5_allHold_44 rfl (lv_at hl 3 rfl) ?_
          refine va_get (D := (dC, dI)) (ci := 5) (v := .ref b_sign) (C := RX5) (T := TX5) (N := 7) hx hb htb iX5 hown hK hP 0 rfl rfl 4 (Nat.le_of_ble_eq_true rfl) (htb _ m_283) (fun _ h9 => h9) rfl dX5_allHold_45 ?_
          refine lv_iload hx hb dX5_allHold_48 (lv_at hl 1 rfl) ?_
          refine va_iald hx hb hK hP 3 2 rfl rfl (i_in rfl (lg_X5_allHold_11 v1 i_1 n1 x_2 x_7 x_10 x_13 yv hi1_0 hmu1 t_4 t_6 t_9 t_12 t_16 t_18)) dX5_allHold_50 ?_
          refine lv_topi (fun x_21 ex_22 => ?_)
          refine lv_aload_n hx hb dX5_allHold_51 rfl (lv_at hl 3 rfl) ?_
          refine va_get (D := (dC, dI)) (ci := 5) (v := .ref b_number) (C := RX5) (T := TX5) (N := 7) hx hb htb iX5 hown hK hP 0 rfl rfl 5 (Nat.le_of_ble_eq_true rfl) (htb _ m_284) (fun _ h9 => h9) rfl dX5_allHold_52 ?_
          refine lv_iload hx hb dX5_allHold_55 (lv_at hl 1 rfl) ?_
          refine va_iald hx hb hK hP 4 3 rfl rfl (i_in rfl (lg_X5_allHold_11 v1 i_1 n1 x_2 x_7 x_10 x_13 yv hi1_0 hmu1 t_4 t_6 t_9 t_12 t_16 t_18)) dX5_allHold_57 ?_
          refine lv_topi (fun x_23 ex_24 => ?_)
          have hPc := hP.sub (ws' := []) [] rfl
          have hDc := hD.sub (ws' := []) [] (by decide) rfl
          have hKc := hK.sub (tys' := []) [] rfl
          have hFc := va_free (wc := []) hD hS hA [] rfl
          refine va_calli (va_runS (As := [.int x_19, .int x_21, .int x_23]) (rest := []) ⟨hx, hb, hml, hown, htb⟩ (kX5_holds l dC dI H.size x_19 x_21 x_23 ) ⟨callB_of 3 htb (gd_c m_662) rfl rfl rfl (htb _ m_12) (htb _ m_660) hdX5_holds ⟨(Nat.le_of_ble_eq_true rfl), (Nat.le_of_ble_eq_true rfl)⟩, htb _ m_661⟩ ⟨pcW_blind, pcW_at hPc hKc hDc hN⟩ rfl rfl hl.1 rfl (lv_room (Nat.le_of_ble_eq_true rfl)) dX5_allHold_58 ⟨(Nat.le_of_ble_eq_true rfl), (Nat.le_of_ble_eq_true rfl)⟩) hS (fun q _ h => hFc q h) hFc (fun r_25 u t H1 locs1 ht hvm h_26 hB hz1 hk1 hS1 => ?_)
          obtain ⟨hP1, hK1, hD1⟩ := hB
          rw [ht] at hP1
          obtain ⟨hPn, hDn⟩ := va_join (wr := [(h0, .inr (5, [.ref b_deed, .ref b_value, .ref b_tests, .ref b_thing, .ref b_sign, .ref b_number, .int n_bk])), (b_tests, .inl (k_tests, 16, .inl f_tests)), (b_thing, .inl (k_thing, 48, .inl f_thing)), (b_sign, .inl (k_sign, 48, .inl f_sign)), (b_number, .inl (k_number, 48, .inl f_number)), (a_fa, .inl (k_fa, 6, .inl f_fa))]) (w1 := []) hP hD [] [0, 1, 2, 3, 4, 5] rfl rfl (by decide) (by decide) hk1 hFc hP1 hD1
          clear hP1 hD1 hK1
          clear hP hD hS hPc hDc hKc hFc hk1 hz1 ht hvm
          clear t
          revert hS1 hPn hDn; generalize H1 = H; generalize locs1 = locs; intro hS hP hD
          change va_P (dC, dI) vwCl [(h0, .inr (5, [.ref b_deed, .ref b_value, .ref b_tests, .ref b_thing, .ref b_sign, .ref b_number, .int n_bk])), (b_tests, .inl (k_tests, 16, .inl f_tests)), (b_thing, .inl (k_thing, 48, .inl f_thing)), (b_sign, .inl (k_sign, 48, .inl f_sign)), (b_number, .inl (k_number, 48, .inl f_number)), (a_fa, .inl (k_fa, 6, .inl f_fa))] H at hP
          change va_D A [(h0, .inr (5, [.ref b_deed, .ref b_value, .ref b_tests, .ref b_thing, .ref b_sign, .ref b_number, .int n_bk])), (b_tests, .inl (k_tests, 16, .inl f_tests)), (b_thing, .inl (k_thing, 48, .inl f_thing)), (b_sign, .inl (k_sign, 48, .inl f_sign)), (b_number, .inl (k_number, 48, .inl f_number)), (a_fa, .inl (k_fa, 6, .inl f_fa))] at hD
          rcases h_26 with ⟨rfl, h_26⟩ | ⟨rfl, h_26⟩
          · refine lv_if_ne (tgt := 66) hx hb dX5_allHold_61 (by decide) ?_ (fun c_27 => absurd c_27 (by decide))
            intro _
            obtain ⟨x_28, ex_29⟩ : ∃ y : Int32, y = i_1 + Int32.ofInt 1 := ⟨_, rfl⟩
            have t_30 : x_28.toInt = i_1.toInt + 1 := i_add rfl (by decide) (lg_X5_allHold_12 v1 i_1 n1 x_2 x_7 x_10 x_13 yv hi1_0 hmu1 t_4 t_6 t_9 t_12 t_16 t_18 h_26) ex_29
            refine lv_iinc (v := x_28) (lv' := [(3, .int x_28), (5, .int x_13), (4, .int x_10), (0, .ref h0), (1, .int v1), (2, .ref a_fa)]) hx hb dX5_allHold_66 hl (k := 2) rfl ex_29.symm (by decide) rfl ?_
            clear hl; intro ls hl
            refine lv_goto (tgt := 2) hx hb dX5_allHold_69 (by decide) ?_
            exact ih1 x_28  H locs ls (lg_X5_allHold_13 v1 i_1 n1 x_2 x_7 x_10 x_13 x_28 yv hi1_0 hmu1 t_4 t_6 t_9 t_12 t_16 t_18 h_26 t_30) (lg_X5_allHold_14 v1 i_1 n1 x_2 x_7 x_10 x_13 x_28 yv hi1_0 hmu1 t_4 t_6 t_9 t_12 t_16 t_18 h_26 t_30)   (lv_sub hl [0, 3, 4, 5] rfl) (hP.sub [0, 1, 2, 3, 4, 5] rfl) (hD.sub [0, 1, 2, 3, 4, 5] (by decide) rfl) hS
          · refine lv_if_ne (tgt := 66) hx hb dX5_allHold_61 (by decide) (fun c_31 => absurd (by decide) c_31) ?_
            intro _
            refine lv_iconst (v := 0) hx hb dX5_allHold_64 (by decide) ?_
            refine W.widen (k := 0) (n := 0) (Nat.le_of_ble_eq_true rfl) (Nat.le_of_ble_eq_true rfl) ?_
            have hP9 := hP.sub (ws' := [(h0, .inr (5, [.ref b_deed, .ref b_value, .ref b_tests, .ref b_thing, .ref b_sign, .ref b_number, .int n_bk])), (b_tests, .inl (k_tests, 16, .inl f_tests)), (b_thing, .inl (k_thing, 48, .inl f_thing)), (b_sign, .inl (k_sign, 48, .inl f_sign)), (b_number, .inl (k_number, 48, .inl f_number)), (a_fa, .inl (k_fa, 6, .inl f_fa))]) [0, 1, 2, 3, 4, 5] rfl
            have hD9 := hD.sub (ws' := [(h0, .inr (5, [.ref b_deed, .ref b_value, .ref b_tests, .ref b_thing, .ref b_sign, .ref b_number, .int n_bk])), (b_tests, .inl (k_tests, 16, .inl f_tests)), (b_thing, .inl (k_thing, 48, .inl f_thing)), (b_sign, .inl (k_sign, 48, .inl f_sign)), (b_number, .inl (k_number, 48, .inl f_number)), (a_fa, .inl (k_fa, 6, .inl f_fa))]) [0, 1, 2, 3, 4, 5] (by decide) rfl
            have hK9 := hK.sub (tys' := [(k_tests, .int), (k_thing, .int), (k_sign, .int), (k_number, .int), (k_fa, .int)]) [0, 1, 2, 3, 4] rfl
            exact W.zret (ty := .boolean) (v := 0) hx hb hr rfl (fun t ht hW => ⟨⟨0, (), rfl, (Or.inr (⟨rfl, (lg_X5_allHold_15 v1 i_1 n1 x_2 x_7 x_10 x_13 yv hi1_0 hmu1 t_4 t_6 t_9 t_12 t_16 t_18 h_26)⟩)), ⟨by rw [ht]; exact hP9, va_K.moved hW.alike hK9, hD9⟩⟩, hS.F ht⟩) hS.2.2 dX5_allHold_65

theorem lg_X5_firstThatHolds_0 (n_bk : Int32) (yk : 0 ≤ n_bk.toInt ∧ n_bk.toInt ≤ 16) : (n_bk.toInt - (0 : Int)) < ((Int.toNat (n_bk.toInt - (0 : Int)) + 1 : Nat) : Int) := by
  have := rg_rng n_bk; omega
theorem lg_X5_firstThatHolds_1 (n_bk : Int32) (yk : 0 ≤ n_bk.toInt ∧ n_bk.toInt ≤ 16) : 0 ≤ (0 : Int) ∧ (0 : Int) ≤ n_bk.toInt := by
  have := rg_rng n_bk; omega
theorem lg_X5_firstThatHolds_2 (n_bk : Int32) (i_1 : Int32) (yk : 0 ≤ n_bk.toInt ∧ n_bk.toInt ≤ 16) (hi1_0 : 0 ≤ i_1.toInt ∧ i_1.toInt ≤ n_bk.toInt) (hmu1 : (n_bk.toInt - i_1.toInt) < ((0 : Nat) : Int)) : False := by
  have := rg_rng n_bk; have := rg_rng i_1; omega
theorem lg_X5_firstThatHolds_3 (n_bk : Int32) (i_1 : Int32) (n1 : Nat) (yk : 0 ≤ n_bk.toInt ∧ n_bk.toInt ≤ 16) (hi1_0 : 0 ≤ i_1.toInt ∧ i_1.toInt ≤ n_bk.toInt) (hmu1 : (n_bk.toInt - i_1.toInt) < ((n1 + 1 : Nat) : Int)) (t_3 : n_bk.toInt ≤ i_1.toInt) : (-1) ≤ (-1 : Int) ∧ (-1 : Int) < n_bk.toInt := by
  have := rg_rng n_bk; have := rg_rng i_1; omega
theorem lg_X5_firstThatHolds_4 (n_bk : Int32) (i_1 : Int32) (n1 : Nat) (yk : 0 ≤ n_bk.toInt ∧ n_bk.toInt ≤ 16) (hi1_0 : 0 ≤ i_1.toInt ∧ i_1.toInt ≤ n_bk.toInt) (hmu1 : (n_bk.toInt - i_1.toInt) < ((n1 + 1 : Nat) : Int)) (t_3 : i_1.toInt < n_bk.toInt) : 0 ≤ i_1.toInt ∧ i_1.toInt < ((16 : Nat) : Int) := by
  have := rg_rng n_bk; have := rg_rng i_1; omega
theorem lg_X5_firstThatHolds_5 (n_bk : Int32) (v1 : Int32) (i_1 : Int32) (n1 : Nat) (x_4 : Int32) (yk : 0 ≤ n_bk.toInt ∧ n_bk.toInt ≤ 16) (hi1_0 : 0 ≤ i_1.toInt ∧ i_1.toInt ≤ n_bk.toInt) (hmu1 : (n_bk.toInt - i_1.toInt) < ((n1 + 1 : Nat) : Int)) (t_3 : i_1.toInt < n_bk.toInt) (t_7 : ¬ x_4.toInt = (12 : Int)) (t_9 : ¬ (0 : Int) = v1.toInt) : -2147483648 ≤ i_1.toInt + 1 ∧ i_1.toInt + 1 < 2147483648 := by
  have := rg_rng n_bk; have := rg_rng v1; have := rg_rng i_1; have := rg_rng x_4; omega
theorem lg_X5_firstThatHolds_6 (n_bk : Int32) (v1 : Int32) (i_1 : Int32) (n1 : Nat) (x_4 : Int32) (x_10 : Int32) (yk : 0 ≤ n_bk.toInt ∧ n_bk.toInt ≤ 16) (hi1_0 : 0 ≤ i_1.toInt ∧ i_1.toInt ≤ n_bk.toInt) (hmu1 : (n_bk.toInt - i_1.toInt) < ((n1 + 1 : Nat) : Int)) (t_3 : i_1.toInt < n_bk.toInt) (t_7 : ¬ x_4.toInt = (12 : Int)) (t_9 : ¬ (0 : Int) = v1.toInt) (t_12 : x_10.toInt = i_1.toInt + 1) : (n_bk.toInt - x_10.toInt) < (n1 : Int) := by
  have := rg_rng n_bk; have := rg_rng v1; have := rg_rng i_1; have := rg_rng x_4; have := rg_rng x_10; omega
theorem lg_X5_firstThatHolds_7 (n_bk : Int32) (v1 : Int32) (i_1 : Int32) (n1 : Nat) (x_4 : Int32) (x_10 : Int32) (yk : 0 ≤ n_bk.toInt ∧ n_bk.toInt ≤ 16) (hi1_0 : 0 ≤ i_1.toInt ∧ i_1.toInt ≤ n_bk.toInt) (hmu1 : (n_bk.toInt - i_1.toInt) < ((n1 + 1 : Nat) : Int)) (t_3 : i_1.toInt < n_bk.toInt) (t_7 : ¬ x_4.toInt = (12 : Int)) (t_9 : ¬ (0 : Int) = v1.toInt) (t_12 : x_10.toInt = i_1.toInt + 1) : 0 ≤ x_10.toInt ∧ x_10.toInt ≤ n_bk.toInt := by
  have := rg_rng n_bk; have := rg_rng v1; have := rg_rng i_1; have := rg_rng x_4; have := rg_rng x_10; omega
theorem lg_X5_firstThatHolds_8 (n_bk : Int32) (v1 : Int32) (i_1 : Int32) (n1 : Nat) (x_4 : Int32) (yk : 0 ≤ n_bk.toInt ∧ n_bk.toInt ≤ 16) (hi1_0 : 0 ≤ i_1.toInt ∧ i_1.toInt ≤ n_bk.toInt) (hmu1 : (n_bk.toInt - i_1.toInt) < ((n1 + 1 : Nat) : Int)) (t_3 : i_1.toInt < n_bk.toInt) (t_7 : ¬ x_4.toInt = (12 : Int)) (t_9 : (0 : Int) = v1.toInt) : 0 ≤ i_1.toInt ∧ i_1.toInt < 16 := by
  have := rg_rng n_bk; have := rg_rng v1; have := rg_rng i_1; have := rg_rng x_4; omega
theorem lg_X5_firstThatHolds_9 (n_bk : Int32) (v1 : Int32) (i_1 : Int32) (n1 : Nat) (x_4 : Int32) (yk : 0 ≤ n_bk.toInt ∧ n_bk.toInt ≤ 16) (hi1_0 : 0 ≤ i_1.toInt ∧ i_1.toInt ≤ n_bk.toInt) (hmu1 : (n_bk.toInt - i_1.toInt) < ((n1 + 1 : Nat) : Int)) (t_3 : i_1.toInt < n_bk.toInt) (t_7 : ¬ x_4.toInt = (12 : Int)) (t_9 : (0 : Int) = v1.toInt) (h_14 : True) : (-1) ≤ i_1.toInt ∧ i_1.toInt < n_bk.toInt := by
  have := rg_rng n_bk; have := rg_rng v1; have := rg_rng i_1; have := rg_rng x_4; omega
theorem lg_X5_firstThatHolds_10 (n_bk : Int32) (v1 : Int32) (i_1 : Int32) (n1 : Nat) (x_4 : Int32) (yk : 0 ≤ n_bk.toInt ∧ n_bk.toInt ≤ 16) (hi1_0 : 0 ≤ i_1.toInt ∧ i_1.toInt ≤ n_bk.toInt) (hmu1 : (n_bk.toInt - i_1.toInt) < ((n1 + 1 : Nat) : Int)) (t_3 : i_1.toInt < n_bk.toInt) (t_7 : ¬ x_4.toInt = (12 : Int)) (t_9 : (0 : Int) = v1.toInt) (h_14 : True) : -2147483648 ≤ i_1.toInt + 1 ∧ i_1.toInt + 1 < 2147483648 := by
  have := rg_rng n_bk; have := rg_rng v1; have := rg_rng i_1; have := rg_rng x_4; omega
theorem lg_X5_firstThatHolds_11 (n_bk : Int32) (v1 : Int32) (i_1 : Int32) (n1 : Nat) (x_4 : Int32) (x_17 : Int32) (yk : 0 ≤ n_bk.toInt ∧ n_bk.toInt ≤ 16) (hi1_0 : 0 ≤ i_1.toInt ∧ i_1.toInt ≤ n_bk.toInt) (hmu1 : (n_bk.toInt - i_1.toInt) < ((n1 + 1 : Nat) : Int)) (t_3 : i_1.toInt < n_bk.toInt) (t_7 : ¬ x_4.toInt = (12 : Int)) (t_9 : (0 : Int) = v1.toInt) (h_14 : True) (t_19 : x_17.toInt = i_1.toInt + 1) : (n_bk.toInt - x_17.toInt) < (n1 : Int) := by
  have := rg_rng n_bk; have := rg_rng v1; have := rg_rng i_1; have := rg_rng x_4; have := rg_rng x_17; omega
theorem lg_X5_firstThatHolds_12 (n_bk : Int32) (v1 : Int32) (i_1 : Int32) (n1 : Nat) (x_4 : Int32) (x_17 : Int32) (yk : 0 ≤ n_bk.toInt ∧ n_bk.toInt ≤ 16) (hi1_0 : 0 ≤ i_1.toInt ∧ i_1.toInt ≤ n_bk.toInt) (hmu1 : (n_bk.toInt - i_1.toInt) < ((n1 + 1 : Nat) : Int)) (t_3 : i_1.toInt < n_bk.toInt) (t_7 : ¬ x_4.toInt = (12 : Int)) (t_9 : (0 : Int) = v1.toInt) (h_14 : True) (t_19 : x_17.toInt = i_1.toInt + 1) : 0 ≤ x_17.toInt ∧ x_17.toInt ≤ n_bk.toInt := by
  have := rg_rng n_bk; have := rg_rng v1; have := rg_rng i_1; have := rg_rng x_4; have := rg_rng x_17; omega
theorem lg_X5_firstThatHolds_13 (n_bk : Int32) (v1 : Int32) (i_1 : Int32) (n1 : Nat) (x_4 : Int32) (yk : 0 ≤ n_bk.toInt ∧ n_bk.toInt ≤ 16) (hi1_0 : 0 ≤ i_1.toInt ∧ i_1.toInt ≤ n_bk.toInt) (hmu1 : (n_bk.toInt - i_1.toInt) < ((n1 + 1 : Nat) : Int)) (t_3 : i_1.toInt < n_bk.toInt) (t_7 : x_4.toInt = (12 : Int)) (t_21 : ¬ (1 : Int) = v1.toInt) : -2147483648 ≤ i_1.toInt + 1 ∧ i_1.toInt + 1 < 2147483648 := by
  have := rg_rng n_bk; have := rg_rng v1; have := rg_rng i_1; have := rg_rng x_4; omega
theorem lg_X5_firstThatHolds_14 (n_bk : Int32) (v1 : Int32) (i_1 : Int32) (n1 : Nat) (x_4 : Int32) (x_22 : Int32) (yk : 0 ≤ n_bk.toInt ∧ n_bk.toInt ≤ 16) (hi1_0 : 0 ≤ i_1.toInt ∧ i_1.toInt ≤ n_bk.toInt) (hmu1 : (n_bk.toInt - i_1.toInt) < ((n1 + 1 : Nat) : Int)) (t_3 : i_1.toInt < n_bk.toInt) (t_7 : x_4.toInt = (12 : Int)) (t_21 : ¬ (1 : Int) = v1.toInt) (t_24 : x_22.toInt = i_1.toInt + 1) : (n_bk.toInt - x_22.toInt) < (n1 : Int) := by
  have := rg_rng n_bk; have := rg_rng v1; have := rg_rng i_1; have := rg_rng x_4; have := rg_rng x_22; omega
theorem lg_X5_firstThatHolds_15 (n_bk : Int32) (v1 : Int32) (i_1 : Int32) (n1 : Nat) (x_4 : Int32) (x_22 : Int32) (yk : 0 ≤ n_bk.toInt ∧ n_bk.toInt ≤ 16) (hi1_0 : 0 ≤ i_1.toInt ∧ i_1.toInt ≤ n_bk.toInt) (hmu1 : (n_bk.toInt - i_1.toInt) < ((n1 + 1 : Nat) : Int)) (t_3 : i_1.toInt < n_bk.toInt) (t_7 : x_4.toInt = (12 : Int)) (t_21 : ¬ (1 : Int) = v1.toInt) (t_24 : x_22.toInt = i_1.toInt + 1) : 0 ≤ x_22.toInt ∧ x_22.toInt ≤ n_bk.toInt := by
  have := rg_rng n_bk; have := rg_rng v1; have := rg_rng i_1; have := rg_rng x_4; have := rg_rng x_22; omega
theorem lg_X5_firstThatHolds_16 (n_bk : Int32) (v1 : Int32) (i_1 : Int32) (n1 : Nat) (x_4 : Int32) (yk : 0 ≤ n_bk.toInt ∧ n_bk.toInt ≤ 16) (hi1_0 : 0 ≤ i_1.toInt ∧ i_1.toInt ≤ n_bk.toInt) (hmu1 : (n_bk.toInt - i_1.toInt) < ((n1 + 1 : Nat) : Int)) (t_3 : i_1.toInt < n_bk.toInt) (t_7 : x_4.toInt = (12 : Int)) (t_21 : (1 : Int) = v1.toInt) : 0 ≤ i_1.toInt ∧ i_1.toInt < 16 := by
  have := rg_rng n_bk; have := rg_rng v1; have := rg_rng i_1; have := rg_rng x_4; omega
theorem lg_X5_firstThatHolds_17 (n_bk : Int32) (v1 : Int32) (i_1 : Int32) (n1 : Nat) (x_4 : Int32) (yk : 0 ≤ n_bk.toInt ∧ n_bk.toInt ≤ 16) (hi1_0 : 0 ≤ i_1.toInt ∧ i_1.toInt ≤ n_bk.toInt) (hmu1 : (n_bk.toInt - i_1.toInt) < ((n1 + 1 : Nat) : Int)) (t_3 : i_1.toInt < n_bk.toInt) (t_7 : x_4.toInt = (12 : Int)) (t_21 : (1 : Int) = v1.toInt) (h_26 : True) : (-1) ≤ i_1.toInt ∧ i_1.toInt < n_bk.toInt := by
  have := rg_rng n_bk; have := rg_rng v1; have := rg_rng i_1; have := rg_rng x_4; omega
theorem lg_X5_firstThatHolds_18 (n_bk : Int32) (v1 : Int32) (i_1 : Int32) (n1 : Nat) (x_4 : Int32) (yk : 0 ≤ n_bk.toInt ∧ n_bk.toInt ≤ 16) (hi1_0 : 0 ≤ i_1.toInt ∧ i_1.toInt ≤ n_bk.toInt) (hmu1 : (n_bk.toInt - i_1.toInt) < ((n1 + 1 : Nat) : Int)) (t_3 : i_1.toInt < n_bk.toInt) (t_7 : x_4.toInt = (12 : Int)) (t_21 : (1 : Int) = v1.toInt) (h_26 : True) : -2147483648 ≤ i_1.toInt + 1 ∧ i_1.toInt + 1 < 2147483648 := by
  have := rg_rng n_bk; have := rg_rng v1; have := rg_rng i_1; have := rg_rng x_4; omega
theorem lg_X5_firstThatHolds_19 (n_bk : Int32) (v1 : Int32) (i_1 : Int32) (n1 : Nat) (x_4 : Int32) (x_29 : Int32) (yk : 0 ≤ n_bk.toInt ∧ n_bk.toInt ≤ 16) (hi1_0 : 0 ≤ i_1.toInt ∧ i_1.toInt ≤ n_bk.toInt) (hmu1 : (n_bk.toInt - i_1.toInt) < ((n1 + 1 : Nat) : Int)) (t_3 : i_1.toInt < n_bk.toInt) (t_7 : x_4.toInt = (12 : Int)) (t_21 : (1 : Int) = v1.toInt) (h_26 : True) (t_31 : x_29.toInt = i_1.toInt + 1) : (n_bk.toInt - x_29.toInt) < (n1 : Int) := by
  have := rg_rng n_bk; have := rg_rng v1; have := rg_rng i_1; have := rg_rng x_4; have := rg_rng x_29; omega
theorem lg_X5_firstThatHolds_20 (n_bk : Int32) (v1 : Int32) (i_1 : Int32) (n1 : Nat) (x_4 : Int32) (x_29 : Int32) (yk : 0 ≤ n_bk.toInt ∧ n_bk.toInt ≤ 16) (hi1_0 : 0 ≤ i_1.toInt ∧ i_1.toInt ≤ n_bk.toInt) (hmu1 : (n_bk.toInt - i_1.toInt) < ((n1 + 1 : Nat) : Int)) (t_3 : i_1.toInt < n_bk.toInt) (t_7 : x_4.toInt = (12 : Int)) (t_21 : (1 : Int) = v1.toInt) (h_26 : True) (t_31 : x_29.toInt = i_1.toInt + 1) : 0 ≤ x_29.toInt ∧ x_29.toInt ≤ n_bk.toInt := by
  have := rg_rng n_bk; have := rg_rng v1; have := rg_rng i_1; have := rg_rng x_4; have := rg_rng x_29; omega
set_option maxHeartbeats 4000000 in
set_option maxRecDepth 100000 in
theorem kX5_firstThatHolds (l : Launch) (dC : Nat → ClassId) (dI : Nat → Nat → Nat) (sz : Nat) (h0 : Nat) (b_deed : Nat) (b_value : Nat) (b_tests : Nat) (b_thing : Nat) (b_sign : Nat) (b_number : Nat) (n_bk : Int32) (k_deed : ClassId) (k_tests : ClassId) (k_thing : ClassId) (k_sign : ClassId) (k_number : ClassId) (f_deed : Nat → Int32) (f_tests : Nat → Int32) (f_thing : Nat → Int32) (f_sign : Nat → Int32) (f_number : Nat → Int32) (a_fa : Nat) (k_fa : ClassId) (f_fa : Nat → Int32) (v1 : Int32) (yk : 0 ≤ n_bk.toInt ∧ n_bk.toInt ≤ 16) (yt : Rg f_tests 16 0 3) : Met l yX5_firstThatHolds (Cond.code yX5_firstThatHolds cX5_firstThatHolds 4 (some .int) :: bg) ({ frames := 2, cells := 0, slots := 0, locals := 47 }) (pcW dC dI [.ref h0, .int v1, .ref a_fa] sz [(h0, .inr (5, [.ref b_deed, .ref b_value, .ref b_tests, .ref b_thing, .ref b_sign, .ref b_number, .int n_bk])), (b_deed, .inl (k_deed, 16, .inl f_deed)), (b_tests, .inl (k_tests, 16, .inl f_tests)), (b_thing, .inl (k_thing, 48, .inl f_thing)), (b_sign, .inl (k_sign, 48, .inl f_sign)), (b_number, .inl (k_number, 48, .inl f_number)), (a_fa, .inl (k_fa, 6, .inl f_fa))] [(k_deed, .int), (k_tests, .int), (k_thing, .int), (k_sign, .int), (k_number, .int), (k_fa, .int)]) (va_Qi (fun (r : Int32) (u : Unit) => (-1) ≤ r.toInt ∧ r.toInt < n_bk.toInt) (fun (u : Unit) (t : State) => va_P (dC, dI) vwCl [(h0, .inr (5, [.ref b_deed, .ref b_value, .ref b_tests, .ref b_thing, .ref b_sign, .ref b_number, .int n_bk])), (b_deed, .inl (k_deed, 16, .inl f_deed)), (b_tests, .inl (k_tests, 16, .inl f_tests)), (b_thing, .inl (k_thing, 48, .inl f_thing)), (b_sign, .inl (k_sign, 48, .inl f_sign)), (b_number, .inl (k_number, 48, .inl f_number)), (a_fa, .inl (k_fa, 6, .inl f_fa))] t.heap ∧ va_K (dC, dI) vwCl [(k_deed, .int), (k_tests, .int), (k_thing, .int), (k_sign, .int), (k_number, .int), (k_fa, .int)] t ∧ va_D (va_A [(h0, .inr (5, [.ref b_deed, .ref b_value, .ref b_tests, .ref b_thing, .ref b_sign, .ref b_number, .int n_bk])), (b_deed, .inl (k_deed, 16, .inl f_deed)), (b_tests, .inl (k_tests, 16, .inl f_tests)), (b_thing, .inl (k_thing, 48, .inl f_thing)), (b_sign, .inl (k_sign, 48, .inl f_sign)), (b_number, .inl (k_number, 48, .inl f_number)), (a_fa, .inl (k_fa, 6, .inl f_fa))] sz) [(h0, .inr (5, [.ref b_deed, .ref b_value, .ref b_tests, .ref b_thing, .ref b_sign, .ref b_number, .int n_bk])), (b_deed, .inl (k_deed, 16, .inl f_deed)), (b_tests, .inl (k_tests, 16, .inl f_tests)), (b_thing, .inl (k_thing, 48, .inl f_thing)), (b_sign, .inl (k_sign, 48, .inl f_sign)), (b_number, .inl (k_number, 48, .inl f_number)), (a_fa, .inl (k_fa, 6, .inl f_fa))]) (va_A [(h0, .inr (5, [.ref b_deed, .ref b_value, .ref b_tests, .ref b_thing, .ref b_sign, .ref b_number, .int n_bk])), (b_deed, .inl (k_deed, 16, .inl f_deed)), (b_tests, .inl (k_tests, 16, .inl f_tests)), (b_thing, .inl (k_thing, 48, .inl f_thing)), (b_sign, .inl (k_sign, 48, .inl f_sign)), (b_number, .inl (k_number, 48, .inl f_number)), (a_fa, .inl (k_fa, 6, .inl f_fa))] sz)) 0 0 (va_A [(h0, .inr (5, [.ref b_deed, .ref b_value, .ref b_tests, .ref b_thing, .ref b_sign, .ref b_number, .int n_bk])), (b_deed, .inl (k_deed, 16, .inl f_deed)), (b_tests, .inl (k_tests, 16, .inl f_tests)), (b_thing, .inl (k_thing, 48, .inl f_thing)), (b_sign, .inl (k_sign, 48, .inl f_sign)), (b_number, .inl (k_number, 48, .inl f_number)), (a_fa, .inl (k_fa, 6, .inl f_fa))] sz) := by
  refine Met.ofW (cc := cX5_firstThatHolds) (maxL := 4) (ret := (some .int)) pnX5 rfl ?_
  intro p e s m args below meth c s₁ B hml hv
  obtain ⟨rfl, hsz, hP, hK, hD0, hN⟩ := hv
  have hx := B.exec
  have hb := B.bytes
  have hr := B.returns
  have htb : ∀ w ∈ bg, w.before [.ref h0, .int v1, .ref a_fa].toArray s = true := fun w h => atoms_spec (ws := Cond.code yX5_firstThatHolds cX5_firstThatHolds 4 (some .int) :: bg) B.pre w (List.mem_cons_of_mem _ h)
  have hown : s.vm.findClass RX5 = some m.cls := findClass_of_methodNamed B.named
  have hlocks := B.notSynchronized
  subst hsz
  have hD := hD0.self (sz := s.heap.size)
  generalize hAe : va_A [(h0, .inr (5, [.ref b_deed, .ref b_value, .ref b_tests, .ref b_thing, .ref b_sign, .ref b_number, .int n_bk])), (b_deed, .inl (k_deed, 16, .inl f_deed)), (b_tests, .inl (k_tests, 16, .inl f_tests)), (b_thing, .inl (k_thing, 48, .inl f_thing)), (b_sign, .inl (k_sign, 48, .inl f_sign)), (b_number, .inl (k_number, 48, .inl f_number)), (a_fa, .inl (k_fa, 6, .inl f_fa))] s.heap.size = A at hD ⊢
  have hA : ∀ q : Nat, s.heap.size ≤ q → A q := fun q h => by rw [← hAe]; exact Or.inr h
  have hS : va_S A s.heap s.heap [] := va_S.rf
  have hl := lv_entry ([.ref h0, .int v1, .ref a_fa]) (n := 4) (Nat.le_of_ble_eq_true rfl)
  rw [lg_entry_eq]
  generalize (lg_sl ([.ref h0, .int v1, .ref a_fa]) ++ List.replicate (4 - (lg_sl ([.ref h0, .int v1, .ref a_fa])).length) Slot.unset).toArray = ls at hl ⊢
  change lv_has ls 4 [(0, .ref h0), (1, .int v1), (2, .ref a_fa)] at hl
  clear hD0 hAe
  refine go0 (wsP := fun H => va_P (dC, dI) vwCl [(h0, .inr (5, [.ref b_deed, .ref b_value, .ref b_tests, .ref b_thing, .ref b_sign, .ref b_number, .int n_bk])), (b_deed, .inl (k_deed, 16, .inl f_deed)), (b_tests, .inl (k_tests, 16, .inl f_tests)), (b_thing, .inl (k_thing, 48, .inl f_thing)), (b_sign, .inl (k_sign, 48, .inl f_sign)), (b_number, .inl (k_number, 48, .inl f_number)), (a_fa, .inl (k_fa, 6, .inl f_fa))] H) hP hS ?_
  clear hP hS; intro H locs hP hS
  change va_P (dC, dI) vwCl [(h0, .inr (5, [.ref b_deed, .ref b_value, .ref b_tests, .ref b_thing, .ref b_sign, .ref b_number, .int n_bk])), (b_deed, .inl (k_deed, 16, .inl f_deed)), (b_tests, .inl (k_tests, 16, .inl f_tests)), (b_thing, .inl (k_thing, 48, .inl f_thing)), (b_sign, .inl (k_sign, 48, .inl f_sign)), (b_number, .inl (k_number, 48, .inl f_number)), (a_fa, .inl (k_fa, 6, .inl f_fa))] H at hP
  refine lv_iconst (v := 0) hx hb dX5_firstThatHolds_0 (by decide) ?_
  refine lv_istore_n (lv' := [(3, .int 0), (0, .ref h0), (1, .int v1), (2, .ref a_fa)]) hx hb dX5_firstThatHolds_1 rfl hl (by decide) rfl ?_
  clear hl; intro ls hl
  refine (fun (lp : ∀ (n1 : Nat) (i_1 : Int32) (H : Heap) (locs : List Loc) (ls : Array Slot), (n_bk.toInt - i_1.toInt) < (n1 : Int) → (0 ≤ i_1.toInt ∧ i_1.toInt ≤ n_bk.toInt) → lv_has ls 4 [(3, .int i_1), (0, .ref h0), (1, .int v1), (2, .ref a_fa)] → va_P (dC, dI) vwCl [(h0, .inr (5, [.ref b_deed, .ref b_value, .ref b_tests, .ref b_thing, .ref b_sign, .ref b_number, .int n_bk])), (b_deed, .inl (k_deed, 16, .inl f_deed)), (b_tests, .inl (k_tests, 16, .inl f_tests)), (b_thing, .inl (k_thing, 48, .inl f_thing)), (b_sign, .inl (k_sign, 48, .inl f_sign)), (b_number, .inl (k_number, 48, .inl f_number)), (a_fa, .inl (k_fa, 6, .inl f_fa))] H → va_D A [(h0, .inr (5, [.ref b_deed, .ref b_value, .ref b_tests, .ref b_thing, .ref b_sign, .ref b_number, .int n_bk])), (b_deed, .inl (k_deed, 16, .inl f_deed)), (b_tests, .inl (k_tests, 16, .inl f_tests)), (b_thing, .inl (k_thing, 48, .inl f_thing)), (b_sign, .inl (k_sign, 48, .inl f_sign)), (b_number, .inl (k_number, 48, .inl f_number)), (a_fa, .inl (k_fa, 6, .inl f_fa))] → va_S A s.heap H locs → W p l e _ s m _ below meth c H locs _ _ _ (F0 m 2 ls [])) => lp (Int.toNat (n_bk.toInt - (0 : Int)) + 1) 0   H locs ls ((lg_X5_firstThatHolds_0 n_bk yk)) (lg_X5_firstThatHolds_1 n_bk yk)   hl hP hD hS) ?_
  clear hP hD hS hl
  intro n1
  induction n1 with
  | zero =>
    intro i_1 H locs ls hmu1 hi1_0   hl hP hD hS
    exact False.elim (lg_X5_firstThatHolds_2 n_bk i_1 yk hi1_0 hmu1)
  | succ n1 ih1 =>
    intro i_1 H locs ls hmu1 hi1_0   hl hP hD hS
    refine lv_iload_n hx hb dX5_firstThatHolds_2 rfl (lv_at hl 0 rfl) ?_
    refine lv_aload_n hx hb dX5_firstThatHolds_3 rfl (lv_at hl 1 rfl) ?_
    refine va_get (D := (dC, dI)) (ci := 5) (v := .int n_bk) (C := RX5) (T := TX5) (N := 7) hx hb htb iX5 hown hK hP 0 rfl rfl 6 (Nat.le_of_ble_eq_true rfl) (htb _ m_285) (fun _ h9 => h9) rfl dX5_firstThatHolds_4 ?_
    refine lv_icmp_ge (tgt := 47) hx hb dX5_firstThatHolds_7 (by decide) (fun c_2 => ?_) (fun c_2 => ?_)
    · have t_3 : n_bk.toInt ≤ i_1.toInt := i_le rfl rfl c_2
      refine lv_iconst (v := (-1)) hx hb dX5_firstThatHolds_47 (by decide) ?_
      refine W.widen (k := 0) (n := 0) (Nat.le_of_ble_eq_true rfl) (Nat.le_of_ble_eq_true rfl) ?_
      have hP9 := hP.sub (ws' := [(h0, .inr (5, [.ref b_deed, .ref b_value, .ref b_tests, .ref b_thing, .ref b_sign, .ref b_number, .int n_bk])), (b_deed, .inl (k_deed, 16, .inl f_deed)), (b_tests, .inl (k_tests, 16, .inl f_tests)), (b_thing, .inl (k_thing, 48, .inl f_thing)), (b_sign, .inl (k_sign, 48, .inl f_sign)), (b_number, .inl (k_number, 48, .inl f_number)), (a_fa, .inl (k_fa, 6, .inl f_fa))]) [0, 1, 2, 3, 4, 5, 6] rfl
      have hD9 := hD.sub (ws' := [(h0, .inr (5, [.ref b_deed, .ref b_value, .ref b_tests, .ref b_thing, .ref b_sign, .ref b_number, .int n_bk])), (b_deed, .inl (k_deed, 16, .inl f_deed)), (b_tests, .inl (k_tests, 16, .inl f_tests)), (b_thing, .inl (k_thing, 48, .inl f_thing)), (b_sign, .inl (k_sign, 48, .inl f_sign)), (b_number, .inl (k_number, 48, .inl f_number)), (a_fa, .inl (k_fa, 6, .inl f_fa))]) [0, 1, 2, 3, 4, 5, 6] (by decide) rfl
      have hK9 := hK.sub (tys' := [(k_deed, .int), (k_tests, .int), (k_thing, .int), (k_sign, .int), (k_number, .int), (k_fa, .int)]) [0, 1, 2, 3, 4, 5] rfl
      exact W.iret (v := (-1)) hx hb hr (fun t ht hW => ⟨⟨(-1), (), rfl, (lg_X5_firstThatHolds_3 n_bk i_1 n1 yk hi1_0 hmu1 t_3), ⟨by rw [ht]; exact hP9, va_K.moved hW.alike hK9, hD9⟩⟩, hS.F ht⟩) hS.2.2 dX5_firstThatHolds_48
    · have t_3 : i_1.toInt < n_bk.toInt := i_nle rfl rfl c_2
      refine lv_aload_n hx hb dX5_firstThatHolds_10 rfl (lv_at hl 1 rfl) ?_
      refine va_get (D := (dC, dI)) (ci := 5) (v := .ref b_deed) (C := RX5) (T := TX5) (N := 7) hx hb htb iX5 hown hK hP 0 rfl rfl 0 (Nat.le_of_ble_eq_true rfl) (htb _ m_279) (fun _ h9 => h9) rfl dX5_firstThatHolds_11 ?_
      refine lv_iload_n hx hb dX5_firstThatHolds_14 rfl (lv_at hl 0 rfl) ?_
      refine va_iald hx hb hK hP 1 0 rfl rfl (i_in rfl (lg_X5_firstThatHolds_4 n_bk i_1 n1 yk hi1_0 hmu1 t_3)) dX5_firstThatHolds_15 ?_
      refine lv_topi (fun x_4 ex_5 => ?_)
      refine lv_bipush (v := 12) hx hb dX5_firstThatHolds_16 (by decide) ?_
      refine lv_icmp_ne (tgt := 25) hx hb dX5_firstThatHolds_18 (by decide) (fun c_6 => ?_) (fun c_6 => ?_)
      · have t_7 : ¬ x_4.toInt = (12 : Int) := i_ne rfl (by decide) c_6
        refine lv_iconst (v := 0) hx hb dX5_firstThatHolds_25 (by decide) ?_
        refine lv_iload_n hx hb dX5_firstThatHolds_26 rfl (lv_at hl 2 rfl) ?_
        refine lv_icmp_ne (tgt := 41) hx hb dX5_firstThatHolds_27 (by decide) (fun c_8 => ?_) (fun c_8 => ?_)
        · have t_9 : ¬ (0 : Int) = v1.toInt := i_ne (by decide) rfl c_8
          obtain ⟨x_10, ex_11⟩ : ∃ y : Int32, y = i_1 + Int32.ofInt 1 := ⟨_, rfl⟩
          have t_12 : x_10.toInt = i_1.toInt + 1 := i_add rfl (by decide) (lg_X5_firstThatHolds_5 n_bk v1 i_1 n1 x_4 yk hi1_0 hmu1 t_3 t_7 t_9) ex_11
          refine lv_iinc (v := x_10) (lv' := [(3, .int x_10), (0, .ref h0), (1, .int v1), (2, .ref a_fa)]) hx hb dX5_firstThatHolds_41 hl (k := 0) rfl ex_11.symm (by decide) rfl ?_
          clear hl; intro ls hl
          refine lv_goto (tgt := 2) hx hb dX5_firstThatHolds_44 (by decide) ?_
          exact ih1 x_10  H locs ls (lg_X5_firstThatHolds_6 n_bk v1 i_1 n1 x_4 x_10 yk hi1_0 hmu1 t_3 t_7 t_9 t_12) (lg_X5_firstThatHolds_7 n_bk v1 i_1 n1 x_4 x_10 yk hi1_0 hmu1 t_3 t_7 t_9 t_12)   (lv_sub hl [0, 1, 2, 3] rfl) (hP.sub [0, 1, 2, 3, 4, 5, 6] rfl) (hD.sub [0, 1, 2, 3, 4, 5, 6] (by decide) rfl) hS
        · have t_9 : (0 : Int) = v1.toInt := i_eq (by decide) rfl c_8
          refine lv_aload_n hx hb dX5_firstThatHolds_30 rfl (lv_at hl 1 rfl) ?_
          refine lv_iload_n hx hb dX5_firstThatHolds_31 rfl (lv_at hl 0 rfl) ?_
          refine lv_aload_n hx hb dX5_firstThatHolds_32 rfl (lv_at hl 3 rfl) ?_
          have hPc := hP.sub (ws' := [(h0, .inr (5, [.ref b_deed, .ref b_value, .ref b_tests, .ref b_thing, .ref b_sign, .ref b_number, .int n_bk])), (b_tests, .inl (k_tests, 16, .inl f_tests)), (b_thing, .inl (k_thing, 48, .inl f_thing)), (b_sign, .inl (k_sign, 48, .inl f_sign)), (b_number, .inl (k_number, 48, .inl f_number)), (a_fa, .inl (k_fa, 6, .inl f_fa))]) [0, 2, 3, 4, 5, 6] rfl
          have hDc := hD.sub (ws' := [(h0, .inr (5, [.ref b_deed, .ref b_value, .ref b_tests, .ref b_thing, .ref b_sign, .ref b_number, .int n_bk])), (b_tests, .inl (k_tests, 16, .inl f_tests)), (b_thing, .inl (k_thing, 48, .inl f_thing)), (b_sign, .inl (k_sign, 48, .inl f_sign)), (b_number, .inl (k_number, 48, .inl f_number)), (a_fa, .inl (k_fa, 6, .inl f_fa))]) [0, 2, 3, 4, 5, 6] (by decide) rfl
          have hKc := hK.sub (tys' := [(k_tests, .int), (k_thing, .int), (k_sign, .int), (k_number, .int), (k_fa, .int)]) [1, 2, 3, 4, 5] rfl
          have hFc := va_free (wc := [(h0, .inr (5, [.ref b_deed, .ref b_value, .ref b_tests, .ref b_thing, .ref b_sign, .ref b_number, .int n_bk])), (b_tests, .inl (k_tests, 16, .inl f_tests)), (b_thing, .inl (k_thing, 48, .inl f_thing)), (b_sign, .inl (k_sign, 48, .inl f_sign)), (b_number, .inl (k_number, 48, .inl f_number)), (a_fa, .inl (k_fa, 6, .inl f_fa))]) hD hS hA [0, 2, 3, 4, 5, 6] rfl
          refine va_calli (va_runV (C := RX5) (As := [.int i_1, .ref a_fa]) (rest := []) ⟨hx, hb, hml, hown, htb⟩ (kX5_allHold l dC dI H.size h0 b_deed b_value b_tests b_thing b_sign b_number n_bk k_tests k_thing k_sign k_number f_tests f_thing f_sign f_number a_fa k_fa f_fa i_1 yt (lg_X5_firstThatHolds_8 n_bk v1 i_1 n1 x_4 yk hi1_0 hmu1 t_3 t_7 t_9)) ⟨callB_of 2 htb (gd_c m_659) rfl rfl rfl (htb _ m_12) (htb _ m_656) hdX5_allHold ⟨(Nat.le_of_ble_eq_true rfl), (Nat.le_of_ble_eq_true rfl)⟩, htb _ m_658, htb _ ms_9⟩ ⟨pcW_blind, va_recv hKc hPc (ci := 5) (q0 := 0) rfl rfl, pcW_at hPc hKc hDc hN⟩ rfl rfl hl.1 rfl (lv_room (Nat.le_of_ble_eq_true rfl)) dX5_firstThatHolds_33 ⟨(Nat.le_of_ble_eq_true rfl), (Nat.le_of_ble_eq_true rfl)⟩) hS (fun q _ h => hFc q h) hFc (fun r_13 u t H1 locs1 ht hvm h_14 hB hz1 hk1 hS1 => ?_)
          obtain ⟨hP1, hK1, hD1⟩ := hB
          rw [ht] at hP1
          obtain ⟨hPn, hDn⟩ := va_join (wr := [(b_deed, .inl (k_deed, 16, .inl f_deed))]) (w1 := [(h0, .inr (5, [.ref b_deed, .ref b_value, .ref b_tests, .ref b_thing, .ref b_sign, .ref b_number, .int n_bk])), (b_tests, .inl (k_tests, 16, .inl f_tests)), (b_thing, .inl (k_thing, 48, .inl f_thing)), (b_sign, .inl (k_sign, 48, .inl f_sign)), (b_number, .inl (k_number, 48, .inl f_number)), (a_fa, .inl (k_fa, 6, .inl f_fa))]) hP hD [0, 2, 3, 4, 5, 6] [1] rfl rfl (by decide) (by decide) hk1 hFc hP1 hD1
          clear hP1 hD1 hK1
          clear hP hD hS hPc hDc hKc hFc hk1 hz1 ht hvm
          clear t
          revert hS1 hPn hDn; generalize H1 = H; generalize locs1 = locs; intro hS hP hD
          change va_P (dC, dI) vwCl [(b_deed, .inl (k_deed, 16, .inl f_deed)), (h0, .inr (5, [.ref b_deed, .ref b_value, .ref b_tests, .ref b_thing, .ref b_sign, .ref b_number, .int n_bk])), (b_tests, .inl (k_tests, 16, .inl f_tests)), (b_thing, .inl (k_thing, 48, .inl f_thing)), (b_sign, .inl (k_sign, 48, .inl f_sign)), (b_number, .inl (k_number, 48, .inl f_number)), (a_fa, .inl (k_fa, 6, .inl f_fa))] H at hP
          change va_D A [(b_deed, .inl (k_deed, 16, .inl f_deed)), (h0, .inr (5, [.ref b_deed, .ref b_value, .ref b_tests, .ref b_thing, .ref b_sign, .ref b_number, .int n_bk])), (b_tests, .inl (k_tests, 16, .inl f_tests)), (b_thing, .inl (k_thing, 48, .inl f_thing)), (b_sign, .inl (k_sign, 48, .inl f_sign)), (b_number, .inl (k_number, 48, .inl f_number)), (a_fa, .inl (k_fa, 6, .inl f_fa))] at hD
          rcases h_14 with ⟨rfl, h_14⟩ | ⟨rfl, h_14⟩
          · refine lv_if_eq (tgt := 41) hx hb dX5_firstThatHolds_36 (by decide) (fun c_15 => absurd c_15 (by decide)) ?_
            intro _
            refine lv_iload_n hx hb dX5_firstThatHolds_39 rfl (lv_at hl 0 rfl) ?_
            refine W.widen (k := 0) (n := 0) (Nat.le_of_ble_eq_true rfl) (Nat.le_of_ble_eq_true rfl) ?_
            have hP9 := hP.sub (ws' := [(h0, .inr (5, [.ref b_deed, .ref b_value, .ref b_tests, .ref b_thing, .ref b_sign, .ref b_number, .int n_bk])), (b_deed, .inl (k_deed, 16, .inl f_deed)), (b_tests, .inl (k_tests, 16, .inl f_tests)), (b_thing, .inl (k_thing, 48, .inl f_thing)), (b_sign, .inl (k_sign, 48, .inl f_sign)), (b_number, .inl (k_number, 48, .inl f_number)), (a_fa, .inl (k_fa, 6, .inl f_fa))]) [1, 0, 2, 3, 4, 5, 6] rfl
            have hD9 := hD.sub (ws' := [(h0, .inr (5, [.ref b_deed, .ref b_value, .ref b_tests, .ref b_thing, .ref b_sign, .ref b_number, .int n_bk])), (b_deed, .inl (k_deed, 16, .inl f_deed)), (b_tests, .inl (k_tests, 16, .inl f_tests)), (b_thing, .inl (k_thing, 48, .inl f_thing)), (b_sign, .inl (k_sign, 48, .inl f_sign)), (b_number, .inl (k_number, 48, .inl f_number)), (a_fa, .inl (k_fa, 6, .inl f_fa))]) [1, 0, 2, 3, 4, 5, 6] (by decide) rfl
            have hK9 := hK.sub (tys' := [(k_deed, .int), (k_tests, .int), (k_thing, .int), (k_sign, .int), (k_number, .int), (k_fa, .int)]) [0, 1, 2, 3, 4, 5] rfl
            exact W.iret (v := i_1) hx hb hr (fun t ht hW => ⟨⟨i_1, (), rfl, (lg_X5_firstThatHolds_9 n_bk v1 i_1 n1 x_4 yk hi1_0 hmu1 t_3 t_7 t_9 h_14), ⟨by rw [ht]; exact hP9, va_K.moved hW.alike hK9, hD9⟩⟩, hS.F ht⟩) hS.2.2 dX5_firstThatHolds_40
          · refine lv_if_eq (tgt := 41) hx hb dX5_firstThatHolds_36 (by decide) ?_ (fun c_16 => absurd (by decide) c_16)
            intro _
            obtain ⟨x_17, ex_18⟩ : ∃ y : Int32, y = i_1 + Int32.ofInt 1 := ⟨_, rfl⟩
            have t_19 : x_17.toInt = i_1.toInt + 1 := i_add rfl (by decide) (lg_X5_firstThatHolds_10 n_bk v1 i_1 n1 x_4 yk hi1_0 hmu1 t_3 t_7 t_9 h_14) ex_18
            refine lv_iinc (v := x_17) (lv' := [(3, .int x_17), (0, .ref h0), (1, .int v1), (2, .ref a_fa)]) hx hb dX5_firstThatHolds_41 hl (k := 0) rfl ex_18.symm (by decide) rfl ?_
            clear hl; intro ls hl
            refine lv_goto (tgt := 2) hx hb dX5_firstThatHolds_44 (by decide) ?_
            exact ih1 x_17  H locs ls (lg_X5_firstThatHolds_11 n_bk v1 i_1 n1 x_4 x_17 yk hi1_0 hmu1 t_3 t_7 t_9 h_14 t_19) (lg_X5_firstThatHolds_12 n_bk v1 i_1 n1 x_4 x_17 yk hi1_0 hmu1 t_3 t_7 t_9 h_14 t_19)   (lv_sub hl [0, 1, 2, 3] rfl) (hP.sub [1, 0, 2, 3, 4, 5, 6] rfl) (hD.sub [1, 0, 2, 3, 4, 5, 6] (by decide) rfl) hS
      · have t_7 : x_4.toInt = (12 : Int) := i_eq rfl (by decide) c_6
        refine lv_iconst (v := 1) hx hb dX5_firstThatHolds_21 (by decide) ?_
        refine lv_goto (tgt := 26) hx hb dX5_firstThatHolds_22 (by decide) ?_
        refine lv_iload_n hx hb dX5_firstThatHolds_26 rfl (lv_at hl 2 rfl) ?_
        refine lv_icmp_ne (tgt := 41) hx hb dX5_firstThatHolds_27 (by decide) (fun c_20 => ?_) (fun c_20 => ?_)
        · have t_21 : ¬ (1 : Int) = v1.toInt := i_ne (by decide) rfl c_20
          obtain ⟨x_22, ex_23⟩ : ∃ y : Int32, y = i_1 + Int32.ofInt 1 := ⟨_, rfl⟩
          have t_24 : x_22.toInt = i_1.toInt + 1 := i_add rfl (by decide) (lg_X5_firstThatHolds_13 n_bk v1 i_1 n1 x_4 yk hi1_0 hmu1 t_3 t_7 t_21) ex_23
          refine lv_iinc (v := x_22) (lv' := [(3, .int x_22), (0, .ref h0), (1, .int v1), (2, .ref a_fa)]) hx hb dX5_firstThatHolds_41 hl (k := 0) rfl ex_23.symm (by decide) rfl ?_
          clear hl; intro ls hl
          refine lv_goto (tgt := 2) hx hb dX5_firstThatHolds_44 (by decide) ?_
          exact ih1 x_22  H locs ls (lg_X5_firstThatHolds_14 n_bk v1 i_1 n1 x_4 x_22 yk hi1_0 hmu1 t_3 t_7 t_21 t_24) (lg_X5_firstThatHolds_15 n_bk v1 i_1 n1 x_4 x_22 yk hi1_0 hmu1 t_3 t_7 t_21 t_24)   (lv_sub hl [0, 1, 2, 3] rfl) (hP.sub [0, 1, 2, 3, 4, 5, 6] rfl) (hD.sub [0, 1, 2, 3, 4, 5, 6] (by decide) rfl) hS
        · have t_21 : (1 : Int) = v1.toInt := i_eq (by decide) rfl c_20
          refine lv_aload_n hx hb dX5_firstThatHolds_30 rfl (lv_at hl 1 rfl) ?_
          refine lv_iload_n hx hb dX5_firstThatHolds_31 rfl (lv_at hl 0 rfl) ?_
          refine lv_aload_n hx hb dX5_firstThatHolds_32 rfl (lv_at hl 3 rfl) ?_
          have hPc := hP.sub (ws' := [(h0, .inr (5, [.ref b_deed, .ref b_value, .ref b_tests, .ref b_thing, .ref b_sign, .ref b_number, .int n_bk])), (b_tests, .inl (k_tests, 16, .inl f_tests)), (b_thing, .inl (k_thing, 48, .inl f_thing)), (b_sign, .inl (k_sign, 48, .inl f_sign)), (b_number, .inl (k_number, 48, .inl f_number)), (a_fa, .inl (k_fa, 6, .inl f_fa))]) [0, 2, 3, 4, 5, 6] rfl
          have hDc := hD.sub (ws' := [(h0, .inr (5, [.ref b_deed, .ref b_value, .ref b_tests, .ref b_thing, .ref b_sign, .ref b_number, .int n_bk])), (b_tests, .inl (k_tests, 16, .inl f_tests)), (b_thing, .inl (k_thing, 48, .inl f_thing)), (b_sign, .inl (k_sign, 48, .inl f_sign)), (b_number, .inl (k_number, 48, .inl f_number)), (a_fa, .inl (k_fa, 6, .inl f_fa))]) [0, 2, 3, 4, 5, 6] (by decide) rfl
          have hKc := hK.sub (tys' := [(k_tests, .int), (k_thing, .int), (k_sign, .int), (k_number, .int), (k_fa, .int)]) [1, 2, 3, 4, 5] rfl
          have hFc := va_free (wc := [(h0, .inr (5, [.ref b_deed, .ref b_value, .ref b_tests, .ref b_thing, .ref b_sign, .ref b_number, .int n_bk])), (b_tests, .inl (k_tests, 16, .inl f_tests)), (b_thing, .inl (k_thing, 48, .inl f_thing)), (b_sign, .inl (k_sign, 48, .inl f_sign)), (b_number, .inl (k_number, 48, .inl f_number)), (a_fa, .inl (k_fa, 6, .inl f_fa))]) hD hS hA [0, 2, 3, 4, 5, 6] rfl
          refine va_calli (va_runV (C := RX5) (As := [.int i_1, .ref a_fa]) (rest := []) ⟨hx, hb, hml, hown, htb⟩ (kX5_allHold l dC dI H.size h0 b_deed b_value b_tests b_thing b_sign b_number n_bk k_tests k_thing k_sign k_number f_tests f_thing f_sign f_number a_fa k_fa f_fa i_1 yt (lg_X5_firstThatHolds_16 n_bk v1 i_1 n1 x_4 yk hi1_0 hmu1 t_3 t_7 t_21)) ⟨callB_of 2 htb (gd_c m_659) rfl rfl rfl (htb _ m_12) (htb _ m_656) hdX5_allHold ⟨(Nat.le_of_ble_eq_true rfl), (Nat.le_of_ble_eq_true rfl)⟩, htb _ m_658, htb _ ms_9⟩ ⟨pcW_blind, va_recv hKc hPc (ci := 5) (q0 := 0) rfl rfl, pcW_at hPc hKc hDc hN⟩ rfl rfl hl.1 rfl (lv_room (Nat.le_of_ble_eq_true rfl)) dX5_firstThatHolds_33 ⟨(Nat.le_of_ble_eq_true rfl), (Nat.le_of_ble_eq_true rfl)⟩) hS (fun q _ h => hFc q h) hFc (fun r_25 u t H1 locs1 ht hvm h_26 hB hz1 hk1 hS1 => ?_)
          obtain ⟨hP1, hK1, hD1⟩ := hB
          rw [ht] at hP1
          obtain ⟨hPn, hDn⟩ := va_join (wr := [(b_deed, .inl (k_deed, 16, .inl f_deed))]) (w1 := [(h0, .inr (5, [.ref b_deed, .ref b_value, .ref b_tests, .ref b_thing, .ref b_sign, .ref b_number, .int n_bk])), (b_tests, .inl (k_tests, 16, .inl f_tests)), (b_thing, .inl (k_thing, 48, .inl f_thing)), (b_sign, .inl (k_sign, 48, .inl f_sign)), (b_number, .inl (k_number, 48, .inl f_number)), (a_fa, .inl (k_fa, 6, .inl f_fa))]) hP hD [0, 2, 3, 4, 5, 6] [1] rfl rfl (by decide) (by decide) hk1 hFc hP1 hD1
          clear hP1 hD1 hK1
          clear hP hD hS hPc hDc hKc hFc hk1 hz1 ht hvm
          clear t
          revert hS1 hPn hDn; generalize H1 = H; generalize locs1 = locs; intro hS hP hD
          change va_P (dC, dI) vwCl [(b_deed, .inl (k_deed, 16, .inl f_deed)), (h0, .inr (5, [.ref b_deed, .ref b_value, .ref b_tests, .ref b_thing, .ref b_sign, .ref b_number, .int n_bk])), (b_tests, .inl (k_tests, 16, .inl f_tests)), (b_thing, .inl (k_thing, 48, .inl f_thing)), (b_sign, .inl (k_sign, 48, .inl f_sign)), (b_number, .inl (k_number, 48, .inl f_number)), (a_fa, .inl (k_fa, 6, .inl f_fa))] H at hP
          change va_D A [(b_deed, .inl (k_deed, 16, .inl f_deed)), (h0, .inr (5, [.ref b_deed, .ref b_value, .ref b_tests, .ref b_thing, .ref b_sign, .ref b_number, .int n_bk])), (b_tests, .inl (k_tests, 16, .inl f_tests)), (b_thing, .inl (k_thing, 48, .inl f_thing)), (b_sign, .inl (k_sign, 48, .inl f_sign)), (b_number, .inl (k_number, 48, .inl f_number)), (a_fa, .inl (k_fa, 6, .inl f_fa))] at hD
          rcases h_26 with ⟨rfl, h_26⟩ | ⟨rfl, h_26⟩
          · refine lv_if_eq (tgt := 41) hx hb dX5_firstThatHolds_36 (by decide) (fun c_27 => absurd c_27 (by decide)) ?_
            intro _
            refine lv_iload_n hx hb dX5_firstThatHolds_39 rfl (lv_at hl 0 rfl) ?_
            refine W.widen (k := 0) (n := 0) (Nat.le_of_ble_eq_true rfl) (Nat.le_of_ble_eq_true rfl) ?_
            have hP9 := hP.sub (ws' := [(h0, .inr (5, [.ref b_deed, .ref b_value, .ref b_tests, .ref b_thing, .ref b_sign, .ref b_number, .int n_bk])), (b_deed, .inl (k_deed, 16, .inl f_deed)), (b_tests, .inl (k_tests, 16, .inl f_tests)), (b_thing, .inl (k_thing, 48, .inl f_thing)), (b_sign, .inl (k_sign, 48, .inl f_sign)), (b_number, .inl (k_number, 48, .inl f_number)), (a_fa, .inl (k_fa, 6, .inl f_fa))]) [1, 0, 2, 3, 4, 5, 6] rfl
            have hD9 := hD.sub (ws' := [(h0, .inr (5, [.ref b_deed, .ref b_value, .ref b_tests, .ref b_thing, .ref b_sign, .ref b_number, .int n_bk])), (b_deed, .inl (k_deed, 16, .inl f_deed)), (b_tests, .inl (k_tests, 16, .inl f_tests)), (b_thing, .inl (k_thing, 48, .inl f_thing)), (b_sign, .inl (k_sign, 48, .inl f_sign)), (b_number, .inl (k_number, 48, .inl f_number)), (a_fa, .inl (k_fa, 6, .inl f_fa))]) [1, 0, 2, 3, 4, 5, 6] (by decide) rfl
            have hK9 := hK.sub (tys' := [(k_deed, .int), (k_tests, .int), (k_thing, .int), (k_sign, .int), (k_number, .int), (k_fa, .int)]) [0, 1, 2, 3, 4, 5] rfl
            exact W.iret (v := i_1) hx hb hr (fun t ht hW => ⟨⟨i_1, (), rfl, (lg_X5_firstThatHolds_17 n_bk v1 i_1 n1 x_4 yk hi1_0 hmu1 t_3 t_7 t_21 h_26), ⟨by rw [ht]; exact hP9, va_K.moved hW.alike hK9, hD9⟩⟩, hS.F ht⟩) hS.2.2 dX5_firstThatHolds_40
          · refine lv_if_eq (tgt := 41) hx hb dX5_firstThatHolds_36 (by decide) ?_ (fun c_28 => absurd (by decide) c_28)
            intro _
            obtain ⟨x_29, ex_30⟩ : ∃ y : Int32, y = i_1 + Int32.ofInt 1 := ⟨_, rfl⟩
            have t_31 : x_29.toInt = i_1.toInt + 1 := i_add rfl (by decide) (lg_X5_firstThatHolds_18 n_bk v1 i_1 n1 x_4 yk hi1_0 hmu1 t_3 t_7 t_21 h_26) ex_30
            refine lv_iinc (v := x_29) (lv' := [(3, .int x_29), (0, .ref h0), (1, .int v1), (2, .ref a_fa)]) hx hb dX5_firstThatHolds_41 hl (k := 0) rfl ex_30.symm (by decide) rfl ?_
            clear hl; intro ls hl
            refine lv_goto (tgt := 2) hx hb dX5_firstThatHolds_44 (by decide) ?_
            exact ih1 x_29  H locs ls (lg_X5_firstThatHolds_19 n_bk v1 i_1 n1 x_4 x_29 yk hi1_0 hmu1 t_3 t_7 t_21 h_26 t_31) (lg_X5_firstThatHolds_20 n_bk v1 i_1 n1 x_4 x_29 yk hi1_0 hmu1 t_3 t_7 t_21 h_26 t_31)   (lv_sub hl [0, 1, 2, 3] rfl) (hP.sub [1, 0, 2, 3, 4, 5, 6] rfl) (hD.sub [1, 0, 2, 3, 4, 5, 6] (by decide) rfl) hS

theorem lg_X1_share_0 (r_1 : Int32) (h_2 : True) (t_4 : (0 : Int) < r_1.toInt) : (10 - (0 : Int)) < ((Int.toNat (10 - (0 : Int)) + 1 : Nat) : Int) := by
  have := rg_rng r_1; omega
theorem lg_X1_share_1 (r_1 : Int32) (h_2 : True) (t_4 : (0 : Int) < r_1.toInt) : 0 ≤ (0 : Int) ∧ (0 : Int) ≤ 10 := by
  have := rg_rng r_1; omega
theorem lg_X1_share_2 (r_1 : Int32) (i_5 : Int32) (h_2 : True) (t_4 : (0 : Int) < r_1.toInt) (hi5_0 : 0 ≤ i_5.toInt ∧ i_5.toInt ≤ 10) (hmu5 : (10 - i_5.toInt) < ((0 : Nat) : Int)) : False := by
  have := rg_rng r_1; have := rg_rng i_5; omega
theorem lg_X1_share_3 (r_1 : Int32) (i_5 : Int32) (n5 : Nat) (h_2 : True) (t_4 : (0 : Int) < r_1.toInt) (hi5_0 : 0 ≤ i_5.toInt ∧ i_5.toInt ≤ 10) (hmu5 : (10 - i_5.toInt) < ((n5 + 1 : Nat) : Int)) (t_7 : (10 : Int) ≤ i_5.toInt) : (10 - (0 : Int)) < ((Int.toNat (10 - (0 : Int)) + 1 : Nat) : Int) := by
  have := rg_rng r_1; have := rg_rng i_5; omega
theorem lg_X1_share_4 (r_1 : Int32) (i_5 : Int32) (n5 : Nat) (h_2 : True) (t_4 : (0 : Int) < r_1.toInt) (hi5_0 : 0 ≤ i_5.toInt ∧ i_5.toInt ≤ 10) (hmu5 : (10 - i_5.toInt) < ((n5 + 1 : Nat) : Int)) (t_7 : (10 : Int) ≤ i_5.toInt) : 0 ≤ (0 : Int) ∧ (0 : Int) ≤ 10 := by
  have := rg_rng r_1; have := rg_rng i_5; omega
theorem lg_X1_share_5 (r_1 : Int32) (i_5 : Int32) (n5 : Nat) (i_8 : Int32) (h_2 : True) (t_4 : (0 : Int) < r_1.toInt) (hi5_0 : 0 ≤ i_5.toInt ∧ i_5.toInt ≤ 10) (hmu5 : (10 - i_5.toInt) < ((n5 + 1 : Nat) : Int)) (t_7 : (10 : Int) ≤ i_5.toInt) (hi8_0 : 0 ≤ i_8.toInt ∧ i_8.toInt ≤ 10) (hmu8 : (10 - i_8.toInt) < ((0 : Nat) : Int)) : False := by
  have := rg_rng r_1; have := rg_rng i_5; have := rg_rng i_8; omega
theorem lg_X1_share_6 (r_1 : Int32) (i_5 : Int32) (n5 : Nat) (i_8 : Int32) (o_8 : Int32) (n8 : Nat) (r_13 : Int32) (h_2 : True) (t_4 : (0 : Int) < r_1.toInt) (hi5_0 : 0 ≤ i_5.toInt ∧ i_5.toInt ≤ 10) (hmu5 : (10 - i_5.toInt) < ((n5 + 1 : Nat) : Int)) (t_7 : (10 : Int) ≤ i_5.toInt) (hi8_0 : 0 ≤ i_8.toInt ∧ i_8.toInt ≤ 10) (hmu8 : (10 - i_8.toInt) < ((n8 + 1 : Nat) : Int)) (t_10 : i_8.toInt < (10 : Int)) (t_12 : (0 : Int) < o_8.toInt) (h_14 : 0 ≤ r_13.toInt ∧ r_13.toInt ≤ 9) : 0 ≤ r_13.toInt ∧ r_13.toInt < ((10 : Nat) : Int) := by
  have := rg_rng r_1; have := rg_rng i_5; have := rg_rng i_8; have := rg_rng o_8; have := rg_rng r_13; omega
theorem lg_X1_share_7 (r_1 : Int32) (i_5 : Int32) (n5 : Nat) (i_8 : Int32) (o_8 : Int32) (n8 : Nat) (r_13 : Int32) (h_2 : True) (t_4 : (0 : Int) < r_1.toInt) (hi5_0 : 0 ≤ i_5.toInt ∧ i_5.toInt ≤ 10) (hmu5 : (10 - i_5.toInt) < ((n5 + 1 : Nat) : Int)) (t_7 : (10 : Int) ≤ i_5.toInt) (hi8_0 : 0 ≤ i_8.toInt ∧ i_8.toInt ≤ 10) (hmu8 : (10 - i_8.toInt) < ((n8 + 1 : Nat) : Int)) (t_10 : i_8.toInt < (10 : Int)) (t_12 : (0 : Int) < o_8.toInt) (h_14 : 0 ≤ r_13.toInt ∧ r_13.toInt ≤ 9) : -2147483648 ≤ i_8.toInt + 1 ∧ i_8.toInt + 1 < 2147483648 := by
  have := rg_rng r_1; have := rg_rng i_5; have := rg_rng i_8; have := rg_rng o_8; have := rg_rng r_13; omega
theorem lg_X1_share_8 (r_1 : Int32) (i_5 : Int32) (n5 : Nat) (i_8 : Int32) (o_8 : Int32) (n8 : Nat) (r_13 : Int32) (x_25 : Int32) (h_2 : True) (t_4 : (0 : Int) < r_1.toInt) (hi5_0 : 0 ≤ i_5.toInt ∧ i_5.toInt ≤ 10) (hmu5 : (10 - i_5.toInt) < ((n5 + 1 : Nat) : Int)) (t_7 : (10 : Int) ≤ i_5.toInt) (hi8_0 : 0 ≤ i_8.toInt ∧ i_8.toInt ≤ 10) (hmu8 : (10 - i_8.toInt) < ((n8 + 1 : Nat) : Int)) (t_10 : i_8.toInt < (10 : Int)) (t_12 : (0 : Int) < o_8.toInt) (h_14 : 0 ≤ r_13.toInt ∧ r_13.toInt ≤ 9) (t_27 : x_25.toInt = i_8.toInt + 1) : (10 - x_25.toInt) < (n8 : Int) := by
  have := rg_rng r_1; have := rg_rng i_5; have := rg_rng i_8; have := rg_rng o_8; have := rg_rng r_13; have := rg_rng x_25; omega
theorem lg_X1_share_9 (r_1 : Int32) (i_5 : Int32) (n5 : Nat) (i_8 : Int32) (o_8 : Int32) (n8 : Nat) (r_13 : Int32) (x_25 : Int32) (h_2 : True) (t_4 : (0 : Int) < r_1.toInt) (hi5_0 : 0 ≤ i_5.toInt ∧ i_5.toInt ≤ 10) (hmu5 : (10 - i_5.toInt) < ((n5 + 1 : Nat) : Int)) (t_7 : (10 : Int) ≤ i_5.toInt) (hi8_0 : 0 ≤ i_8.toInt ∧ i_8.toInt ≤ 10) (hmu8 : (10 - i_8.toInt) < ((n8 + 1 : Nat) : Int)) (t_10 : i_8.toInt < (10 : Int)) (t_12 : (0 : Int) < o_8.toInt) (h_14 : 0 ≤ r_13.toInt ∧ r_13.toInt ≤ 9) (t_27 : x_25.toInt = i_8.toInt + 1) : 0 ≤ x_25.toInt ∧ x_25.toInt ≤ 10 := by
  have := rg_rng r_1; have := rg_rng i_5; have := rg_rng i_8; have := rg_rng o_8; have := rg_rng r_13; have := rg_rng x_25; omega
theorem lg_X1_share_10 (r_1 : Int32) (i_5 : Int32) (n5 : Nat) (h_2 : True) (t_4 : (0 : Int) < r_1.toInt) (hi5_0 : 0 ≤ i_5.toInt ∧ i_5.toInt ≤ 10) (hmu5 : (10 - i_5.toInt) < ((n5 + 1 : Nat) : Int)) (t_7 : i_5.toInt < (10 : Int)) : 0 ≤ i_5.toInt ∧ i_5.toInt < ((10 : Nat) : Int) := by
  have := rg_rng r_1; have := rg_rng i_5; omega
theorem lg_X1_share_11 (r_1 : Int32) (i_5 : Int32) (n5 : Nat) (h_2 : True) (t_4 : (0 : Int) < r_1.toInt) (hi5_0 : 0 ≤ i_5.toInt ∧ i_5.toInt ≤ 10) (hmu5 : (10 - i_5.toInt) < ((n5 + 1 : Nat) : Int)) (t_7 : i_5.toInt < (10 : Int)) : ¬ r_1.toInt = 0 := by
  have := rg_rng r_1; have := rg_rng i_5; omega
theorem lg_X1_share_12 (r_1 : Int32) (i_5 : Int32) (n5 : Nat) (h_2 : True) (t_4 : (0 : Int) < r_1.toInt) (hi5_0 : 0 ≤ i_5.toInt ∧ i_5.toInt ≤ 10) (hmu5 : (10 - i_5.toInt) < ((n5 + 1 : Nat) : Int)) (t_7 : i_5.toInt < (10 : Int)) : -2147483648 ≤ i_5.toInt + 1 ∧ i_5.toInt + 1 < 2147483648 := by
  have := rg_rng r_1; have := rg_rng i_5; omega
theorem lg_X1_share_13 (r_1 : Int32) (i_5 : Int32) (n5 : Nat) (x_56 : Int32) (h_2 : True) (t_4 : (0 : Int) < r_1.toInt) (hi5_0 : 0 ≤ i_5.toInt ∧ i_5.toInt ≤ 10) (hmu5 : (10 - i_5.toInt) < ((n5 + 1 : Nat) : Int)) (t_7 : i_5.toInt < (10 : Int)) (t_58 : x_56.toInt = i_5.toInt + 1) : (10 - x_56.toInt) < (n5 : Int) := by
  have := rg_rng r_1; have := rg_rng i_5; have := rg_rng x_56; omega
theorem lg_X1_share_14 (r_1 : Int32) (i_5 : Int32) (n5 : Nat) (x_56 : Int32) (h_2 : True) (t_4 : (0 : Int) < r_1.toInt) (hi5_0 : 0 ≤ i_5.toInt ∧ i_5.toInt ≤ 10) (hmu5 : (10 - i_5.toInt) < ((n5 + 1 : Nat) : Int)) (t_7 : i_5.toInt < (10 : Int)) (t_58 : x_56.toInt = i_5.toInt + 1) : 0 ≤ x_56.toInt ∧ x_56.toInt ≤ 10 := by
  have := rg_rng r_1; have := rg_rng i_5; have := rg_rng x_56; omega
set_option maxHeartbeats 4000000 in
set_option maxRecDepth 100000 in
theorem kX1_share (l : Launch) (dC : Nat → ClassId) (dI : Nat → Nat → Nat) (sz : Nat) (h0 : Nat) (o_came : Nat) (o_coins : Nat) (o_rem : Nat) (k_came : ClassId) (k_coins : ClassId) (k_rem : ClassId) (f_came : Nat → Int32) (f_coins : Nat → Int32) (f_rem : Nat → Int64) (v1 : Int32) : Met l yX1_share (Cond.code yX1_share cX1_share 8 none :: bg) ({ frames := 1, cells := 0, slots := 0, locals := 22 }) (pcW dC dI [.ref h0, .int v1] sz [(h0, .inr (1, [.ref o_came, .ref o_coins, .ref o_rem])), (o_came, .inl (k_came, 10, .inl f_came)), (o_coins, .inl (k_coins, 10, .inl f_coins)), (o_rem, .inl (k_rem, 10, .inr (.inl f_rem)))] [(k_came, .int), (k_coins, .int), (k_rem, .long)]) (va_Qv (fun (u : Unit) => True) (fun (u : Unit) (t : State) => ∃ (w_coins : Nat → Int32) (w_rem : Nat → Int64), va_P (dC, dI) vwCl [(h0, .inr (1, [.ref o_came, .ref o_coins, .ref o_rem])), (o_came, .inl (k_came, 10, .inl f_came)), (o_coins, .inl (k_coins, 10, .inl w_coins)), (o_rem, .inl (k_rem, 10, .inr (.inl w_rem)))] t.heap ∧ va_K (dC, dI) vwCl [] t ∧ va_D (va_A [(h0, .inr (1, [.ref o_came, .ref o_coins, .ref o_rem])), (o_came, .inl (k_came, 10, .inl f_came)), (o_coins, .inl (k_coins, 10, .inl f_coins)), (o_rem, .inl (k_rem, 10, .inr (.inl f_rem)))] sz) [(h0, .inr (1, [.ref o_came, .ref o_coins, .ref o_rem])), (o_came, .inl (k_came, 10, .inl f_came)), (o_coins, .inl (k_coins, 10, .inl w_coins)), (o_rem, .inl (k_rem, 10, .inr (.inl w_rem)))]) (va_A [(h0, .inr (1, [.ref o_came, .ref o_coins, .ref o_rem])), (o_came, .inl (k_came, 10, .inl f_came)), (o_coins, .inl (k_coins, 10, .inl f_coins)), (o_rem, .inl (k_rem, 10, .inr (.inl f_rem)))] sz)) 0 0 (va_A [(h0, .inr (1, [.ref o_came, .ref o_coins, .ref o_rem])), (o_came, .inl (k_came, 10, .inl f_came)), (o_coins, .inl (k_coins, 10, .inl f_coins)), (o_rem, .inl (k_rem, 10, .inr (.inl f_rem)))] sz) := by
  refine Met.ofW (cc := cX1_share) (maxL := 8) (ret := none) pnX1 rfl ?_
  intro p e s m args below meth c s₁ B hml hv
  obtain ⟨rfl, hsz, hP, hK, hD0, hN⟩ := hv
  have hx := B.exec
  have hb := B.bytes
  have hr := B.returns
  have htb : ∀ w ∈ bg, w.before [.ref h0, .int v1].toArray s = true := fun w h => atoms_spec (ws := Cond.code yX1_share cX1_share 8 none :: bg) B.pre w (List.mem_cons_of_mem _ h)
  have hown : s.vm.findClass RX1 = some m.cls := findClass_of_methodNamed B.named
  have hlocks := B.notSynchronized
  subst hsz
  have hD := hD0.self (sz := s.heap.size)
  generalize hAe : va_A [(h0, .inr (1, [.ref o_came, .ref o_coins, .ref o_rem])), (o_came, .inl (k_came, 10, .inl f_came)), (o_coins, .inl (k_coins, 10, .inl f_coins)), (o_rem, .inl (k_rem, 10, .inr (.inl f_rem)))] s.heap.size = A at hD ⊢
  have hA : ∀ q : Nat, s.heap.size ≤ q → A q := fun q h => by rw [← hAe]; exact Or.inr h
  have hS : va_S A s.heap s.heap [] := va_S.rf
  have hl := lv_entry ([.ref h0, .int v1]) (n := 8) (Nat.le_of_ble_eq_true rfl)
  rw [lg_entry_eq]
  generalize (lg_sl ([.ref h0, .int v1]) ++ List.replicate (8 - (lg_sl ([.ref h0, .int v1])).length) Slot.unset).toArray = ls at hl ⊢
  change lv_has ls 8 [(0, .ref h0), (1, .int v1)] at hl
  clear hD0 hAe
  refine go0 (wsP := fun H => va_P (dC, dI) vwCl [(h0, .inr (1, [.ref o_came, .ref o_coins, .ref o_rem])), (o_came, .inl (k_came, 10, .inl f_came)), (o_coins, .inl (k_coins, 10, .inl f_coins)), (o_rem, .inl (k_rem, 10, .inr (.inl f_rem)))] H) hP hS ?_
  clear hP hS; intro H locs hP hS
  change va_P (dC, dI) vwCl [(h0, .inr (1, [.ref o_came, .ref o_coins, .ref o_rem])), (o_came, .inl (k_came, 10, .inl f_came)), (o_coins, .inl (k_coins, 10, .inl f_coins)), (o_rem, .inl (k_rem, 10, .inr (.inl f_rem)))] H at hP
  refine lv_aload_n hx hb dX1_share_0 rfl (lv_at hl 0 rfl) ?_
  have hPc := hP.sub (ws' := [(h0, .inr (1, [.ref o_came, .ref o_coins, .ref o_rem])), (o_came, .inl (k_came, 10, .inl f_came))]) [0, 1] rfl
  have hDc := hD.sub (ws' := [(h0, .inr (1, [.ref o_came, .ref o_coins, .ref o_rem])), (o_came, .inl (k_came, 10, .inl f_came))]) [0, 1] (by decide) rfl
  have hKc := hK.sub (tys' := [(k_came, .int)]) [0] rfl
  have hFc := va_free (wc := [(h0, .inr (1, [.ref o_came, .ref o_coins, .ref o_rem])), (o_came, .inl (k_came, 10, .inl f_came))]) hD hS hA [0, 1] rfl
  refine va_calli (va_runV (C := RX1) (As := []) (rest := []) ⟨hx, hb, hml, hown, htb⟩ (kX1_cameTogether l dC dI H.size h0 o_came o_coins o_rem k_came f_came ) ⟨callB_of 0 htb (gd_c m_757) rfl rfl rfl (htb _ m_9) (htb _ m_774) hdX1_cameTogether ⟨(Nat.le_of_ble_eq_true rfl), (Nat.le_of_ble_eq_true rfl)⟩, htb _ m_755, htb _ m_756⟩ ⟨pcW_blind, va_recv hKc hPc (ci := 1) (q0 := 0) rfl rfl, pcW_at hPc hKc hDc hN⟩ rfl rfl hl.1 rfl (lv_room (Nat.le_of_ble_eq_true rfl)) dX1_share_1 ⟨(Nat.le_of_ble_eq_true rfl), (Nat.le_of_ble_eq_true rfl)⟩) hS (fun q _ h => hFc q h) hFc (fun r_1 u t H1 locs1 ht hvm h_2 hB hz1 hk1 hS1 => ?_)
  obtain ⟨hP1, hK1, hD1⟩ := hB
  rw [ht] at hP1
  obtain ⟨hPn, hDn⟩ := va_join (wr := [(o_coins, .inl (k_coins, 10, .inl f_coins)), (o_rem, .inl (k_rem, 10, .inr (.inl f_rem)))]) (w1 := [(h0, .inr (1, [.ref o_came, .ref o_coins, .ref o_rem])), (o_came, .inl (k_came, 10, .inl f_came))]) hP hD [0, 1] [2, 3] rfl rfl (by decide) (by decide) hk1 hFc hP1 hD1
  clear hP1 hD1 hK1
  clear hP hD hS hPc hDc hKc hFc hk1 hz1 ht hvm
  clear t
  revert hS1 hPn hDn; generalize H1 = H; generalize locs1 = locs; intro hS hP hD
  change va_P (dC, dI) vwCl [(o_coins, .inl (k_coins, 10, .inl f_coins)), (o_rem, .inl (k_rem, 10, .inr (.inl f_rem))), (h0, .inr (1, [.ref o_came, .ref o_coins, .ref o_rem])), (o_came, .inl (k_came, 10, .inl f_came))] H at hP
  change va_D A [(o_coins, .inl (k_coins, 10, .inl f_coins)), (o_rem, .inl (k_rem, 10, .inr (.inl f_rem))), (h0, .inr (1, [.ref o_came, .ref o_coins, .ref o_rem])), (o_came, .inl (k_came, 10, .inl f_came))] at hD
  refine lv_istore_n (lv' := [(2, .int r_1), (0, .ref h0), (1, .int v1)]) hx hb dX1_share_4 rfl hl (by decide) rfl ?_
  clear hl; intro ls hl
  refine lv_iload_n hx hb dX1_share_5 rfl (lv_at hl 0 rfl) ?_
  refine lv_if_gt (tgt := 10) hx hb dX1_share_6 (by decide) (fun c_3 => ?_) (fun c_3 => ?_)
  · have t_4 : (0 : Int) < r_1.toInt := i_lt (by decide) rfl c_3
    refine lv_iload_n hx hb dX1_share_10 rfl (lv_at hl 2 rfl) ?_
    refine lv_istore_n (lv' := [(3, .int v1), (2, .int r_1), (0, .ref h0), (1, .int v1)]) hx hb dX1_share_11 rfl hl (by decide) rfl ?_
    clear hl; intro ls hl
    refine lv_iconst (v := 0) hx hb dX1_share_12 (by decide) ?_
    refine lv_istore (lv' := [(4, .int 0), (3, .int v1), (2, .int r_1), (0, .ref h0), (1, .int v1)]) hx hb dX1_share_13 hl (by decide) rfl ?_
    clear hl; intro ls hl
    refine (fun (lp : ∀ (n5 : Nat) (i_5 : Int32) (o_5 : Int32) (ga_o_coins_5 : Nat → Int32) (ga_o_rem_5 : Nat → Int64) (H : Heap) (locs : List Loc) (ls : Array Slot), (10 - i_5.toInt) < (n5 : Int) → (0 ≤ i_5.toInt ∧ i_5.toInt ≤ 10) → lv_has ls 8 [(4, .int i_5), (3, .int o_5), (2, .int r_1), (0, .ref h0), (1, .int v1)] → va_P (dC, dI) vwCl [(o_coins, .inl (k_coins, 10, .inl ga_o_coins_5)), (o_rem, .inl (k_rem, 10, .inr (.inl ga_o_rem_5))), (h0, .inr (1, [.ref o_came, .ref o_coins, .ref o_rem])), (o_came, .inl (k_came, 10, .inl f_came))] H → va_D A [(o_coins, .inl (k_coins, 10, .inl ga_o_coins_5)), (o_rem, .inl (k_rem, 10, .inr (.inl ga_o_rem_5))), (h0, .inr (1, [.ref o_came, .ref o_coins, .ref o_rem])), (o_came, .inl (k_came, 10, .inl f_came))] → va_S A s.heap H locs → W p l e _ s m _ below meth c H locs _ _ _ (F0 m 15 ls [])) => lp (Int.toNat (10 - (0 : Int)) + 1) 0 v1  f_coins f_rem H locs ls ((lg_X1_share_0 r_1 h_2 t_4)) (lg_X1_share_1 r_1 h_2 t_4)   hl hP hD hS) ?_
    clear hP hD hS hl
    intro n5
    induction n5 with
    | zero =>
      intro i_5 o_5 ga_o_coins_5 ga_o_rem_5 H locs ls hmu5 hi5_0   hl hP hD hS
      exact False.elim (lg_X1_share_2 r_1 i_5 h_2 t_4 hi5_0 hmu5)
    | succ n5 ih5 =>
      intro i_5 o_5 ga_o_coins_5 ga_o_rem_5 H locs ls hmu5 hi5_0   hl hP hD hS
      refine lv_iload hx hb dX1_share_15 (lv_at hl 0 rfl) ?_
      refine lv_bipush (v := 10) hx hb dX1_share_17 (by decide) ?_
      refine lv_icmp_ge (tgt := 78) hx hb dX1_share_19 (by decide) (fun c_6 => ?_) (fun c_6 => ?_)
      · have t_7 : (10 : Int) ≤ i_5.toInt := i_le (by decide) rfl c_6
        refine lv_iconst (v := 0) hx hb dX1_share_78 (by decide) ?_
        refine lv_istore (lv' := [(4, .int 0), (3, .int o_5), (2, .int r_1), (0, .ref h0), (1, .int v1)]) hx hb dX1_share_79 hl (by decide) rfl ?_
        clear hl; intro ls hl
        refine (fun (lp : ∀ (n8 : Nat) (i_8 : Int32) (o_8 : Int32) (ga_o_coins_8 : Nat → Int32) (ga_o_rem_8 : Nat → Int64) (H : Heap) (locs : List Loc) (ls : Array Slot), (10 - i_8.toInt) < (n8 : Int) → (0 ≤ i_8.toInt ∧ i_8.toInt ≤ 10) → lv_has ls 8 [(4, .int i_8), (3, .int o_8), (2, .int r_1), (0, .ref h0), (1, .int v1)] → va_P (dC, dI) vwCl [(o_coins, .inl (k_coins, 10, .inl ga_o_coins_8)), (o_rem, .inl (k_rem, 10, .inr (.inl ga_o_rem_8))), (h0, .inr (1, [.ref o_came, .ref o_coins, .ref o_rem])), (o_came, .inl (k_came, 10, .inl f_came))] H → va_D A [(o_coins, .inl (k_coins, 10, .inl ga_o_coins_8)), (o_rem, .inl (k_rem, 10, .inr (.inl ga_o_rem_8))), (h0, .inr (1, [.ref o_came, .ref o_coins, .ref o_rem])), (o_came, .inl (k_came, 10, .inl f_came))] → va_S A s.heap H locs → W p l e _ s m _ below meth c H locs _ _ _ (F0 m 81 ls [])) => lp (Int.toNat (10 - (0 : Int)) + 1) 0 o_5  ga_o_coins_5 ga_o_rem_5 H locs ls ((lg_X1_share_3 r_1 i_5 n5 h_2 t_4 hi5_0 hmu5 t_7)) (lg_X1_share_4 r_1 i_5 n5 h_2 t_4 hi5_0 hmu5 t_7)   hl hP hD hS) ?_
        clear hP hD hS hl
        intro n8
        induction n8 with
        | zero =>
          intro i_8 o_8 ga_o_coins_8 ga_o_rem_8 H locs ls hmu8 hi8_0   hl hP hD hS
          exact False.elim (lg_X1_share_5 r_1 i_5 n5 i_8 h_2 t_4 hi5_0 hmu5 t_7 hi8_0 hmu8)
        | succ n8 ih8 =>
          intro i_8 o_8 ga_o_coins_8 ga_o_rem_8 H locs ls hmu8 hi8_0   hl hP hD hS
          refine lv_iload hx hb dX1_share_81 (lv_at hl 0 rfl) ?_
          refine lv_bipush (v := 10) hx hb dX1_share_83 (by decide) ?_
          refine lv_icmp_ge (tgt := 126) hx hb dX1_share_85 (by decide) (fun c_9 => ?_) (fun c_9 => ?_)
          · have t_10 : (10 : Int) ≤ i_8.toInt := i_le (by decide) rfl c_9
            refine W.widen (k := 0) (n := 0) (Nat.le_of_ble_eq_true rfl) (Nat.le_of_ble_eq_true rfl) ?_
            have hP9 := hP.sub (ws' := [(h0, .inr (1, [.ref o_came, .ref o_coins, .ref o_rem])), (o_came, .inl (k_came, 10, .inl f_came)), (o_coins, .inl (k_coins, 10, .inl ga_o_coins_8)), (o_rem, .inl (k_rem, 10, .inr (.inl ga_o_rem_8)))]) [2, 3, 0, 1] rfl
            have hD9 := hD.sub (ws' := [(h0, .inr (1, [.ref o_came, .ref o_coins, .ref o_rem])), (o_came, .inl (k_came, 10, .inl f_came)), (o_coins, .inl (k_coins, 10, .inl ga_o_coins_8)), (o_rem, .inl (k_rem, 10, .inr (.inl ga_o_rem_8)))]) [2, 3, 0, 1] (by decide) rfl
            have hK9 := hK.sub (tys' := []) [] rfl
            exact W.vret hx hb hr (fun t ht hW => ⟨⟨(), rfl, trivial, ⟨ga_o_coins_8, ga_o_rem_8, by rw [ht]; exact hP9, va_K.moved hW.alike hK9, hD9⟩⟩, hS.F ht⟩) hS.2.2 dX1_share_126
          · have t_10 : i_8.toInt < (10 : Int) := i_nle (by decide) rfl c_9
            refine lv_iload_n hx hb dX1_share_88 rfl (lv_at hl 1 rfl) ?_
            refine lv_if_le (tgt := 126) hx hb dX1_share_89 (by decide) (fun c_11 => ?_) (fun c_11 => ?_)
            · have t_12 : o_8.toInt ≤ (0 : Int) := i_le rfl (by decide) c_11
              refine W.widen (k := 0) (n := 0) (Nat.le_of_ble_eq_true rfl) (Nat.le_of_ble_eq_true rfl) ?_
              have hP9 := hP.sub (ws' := [(h0, .inr (1, [.ref o_came, .ref o_coins, .ref o_rem])), (o_came, .inl (k_came, 10, .inl f_came)), (o_coins, .inl (k_coins, 10, .inl ga_o_coins_8)), (o_rem, .inl (k_rem, 10, .inr (.inl ga_o_rem_8)))]) [2, 3, 0, 1] rfl
              have hD9 := hD.sub (ws' := [(h0, .inr (1, [.ref o_came, .ref o_coins, .ref o_rem])), (o_came, .inl (k_came, 10, .inl f_came)), (o_coins, .inl (k_coins, 10, .inl ga_o_coins_8)), (o_rem, .inl (k_rem, 10, .inr (.inl ga_o_rem_8)))]) [2, 3, 0, 1] (by decide) rfl
              have hK9 := hK.sub (tys' := []) [] rfl
              exact W.vret hx hb hr (fun t ht hW => ⟨⟨(), rfl, trivial, ⟨ga_o_coins_8, ga_o_rem_8, by rw [ht]; exact hP9, va_K.moved hW.alike hK9, hD9⟩⟩, hS.F ht⟩) hS.2.2 dX1_share_126
            · have t_12 : (0 : Int) < o_8.toInt := i_nle rfl (by decide) c_11
              refine lv_aload_n hx hb dX1_share_92 rfl (lv_at hl 3 rfl) ?_
              have hPc := hP.sub (ws' := [(h0, .inr (1, [.ref o_came, .ref o_coins, .ref o_rem])), (o_rem, .inl (k_rem, 10, .inr (.inl ga_o_rem_8)))]) [2, 1] rfl
              have hDc := hD.sub (ws' := [(h0, .inr (1, [.ref o_came, .ref o_coins, .ref o_rem])), (o_rem, .inl (k_rem, 10, .inr (.inl ga_o_rem_8)))]) [2, 1] (by decide) rfl
              have hKc := hK.sub (tys' := [(k_rem, .long)]) [2] rfl
              have hFc := va_free (wc := [(h0, .inr (1, [.ref o_came, .ref o_coins, .ref o_rem])), (o_rem, .inl (k_rem, 10, .inr (.inl ga_o_rem_8)))]) hD hS hA [2, 1] rfl
              refine va_calli (va_runV (C := RX1) (As := []) (rest := []) ⟨hx, hb, hml, hown, htb⟩ (kX1_greatestRemainder l dC dI H.size h0 o_came o_coins o_rem k_rem ga_o_rem_8 ) ⟨callB_of 0 htb (gd_c m_778) rfl rfl rfl (htb _ m_9) (htb _ m_775) hdX1_greatestRemainder ⟨(Nat.le_of_ble_eq_true rfl), (Nat.le_of_ble_eq_true rfl)⟩, htb _ m_777, htb _ ms_15⟩ ⟨pcW_blind, va_recv hKc hPc (ci := 1) (q0 := 0) rfl rfl, pcW_at hPc hKc hDc hN⟩ rfl rfl hl.1 rfl (lv_room (Nat.le_of_ble_eq_true rfl)) dX1_share_93 ⟨(Nat.le_of_ble_eq_true rfl), (Nat.le_of_ble_eq_true rfl)⟩) hS (fun q _ h => hFc q h) hFc (fun r_13 u t H1 locs1 ht hvm h_14 hB hz1 hk1 hS1 => ?_)
              obtain ⟨hP1, hK1, hD1⟩ := hB
              rw [ht] at hP1
              obtain ⟨hPn, hDn⟩ := va_join (wr := [(o_coins, .inl (k_coins, 10, .inl ga_o_coins_8)), (o_came, .inl (k_came, 10, .inl f_came))]) (w1 := [(h0, .inr (1, [.ref o_came, .ref o_coins, .ref o_rem])), (o_rem, .inl (k_rem, 10, .inr (.inl ga_o_rem_8)))]) hP hD [2, 1] [0, 3] rfl rfl (by decide) (by decide) hk1 hFc hP1 hD1
              clear hP1 hD1 hK1
              clear hP hD hS hPc hDc hKc hFc hk1 hz1 ht hvm
              clear t
              revert hS1 hPn hDn; generalize H1 = H; generalize locs1 = locs; intro hS hP hD
              change va_P (dC, dI) vwCl [(o_coins, .inl (k_coins, 10, .inl ga_o_coins_8)), (o_came, .inl (k_came, 10, .inl f_came)), (h0, .inr (1, [.ref o_came, .ref o_coins, .ref o_rem])), (o_rem, .inl (k_rem, 10, .inr (.inl ga_o_rem_8)))] H at hP
              change va_D A [(o_coins, .inl (k_coins, 10, .inl ga_o_coins_8)), (o_came, .inl (k_came, 10, .inl f_came)), (h0, .inr (1, [.ref o_came, .ref o_coins, .ref o_rem])), (o_rem, .inl (k_rem, 10, .inr (.inl ga_o_rem_8)))] at hD
              refine lv_istore (lv' := [(5, .int r_13), (4, .int i_8), (3, .int o_8), (2, .int r_1), (0, .ref h0), (1, .int v1)]) hx hb dX1_share_96 hl (by decide) rfl ?_
              clear hl; intro ls hl
              refine lv_aload_n hx hb dX1_share_98 rfl (lv_at hl 4 rfl) ?_
              refine va_get (D := (dC, dI)) (ci := 1) (v := .ref o_coins) (C := RX1) (T := TX1) (N := 3) hx hb htb iX1 hown hK hP 2 rfl rfl 1 (Nat.le_of_ble_eq_true rfl) (htb _ m_220) (fun _ h9 => h9) rfl dX1_share_99 ?_
              refine lv_iload hx hb dX1_share_102 (lv_at hl 0 rfl) ?_
              refine lv_dup2_11 hx hb dX1_share_104 rfl rfl ?_
              refine va_iald hx hb hK hP 0 1 rfl rfl (i_in rfl (lg_X1_share_6 r_1 i_5 n5 i_8 o_8 n8 r_13 h_2 t_4 hi5_0 hmu5 t_7 hi8_0 hmu8 t_10 t_12 h_14)) dX1_share_105 ?_
              refine lv_topi (fun x_15 ex_16 => ?_)
              refine lv_iconst (v := 1) hx hb dX1_share_106 (by decide) ?_
              refine lv_iadd hx hb dX1_share_107 ?_
              refine lv_topi (fun x_17 ex_18 => ?_)
              refine va_iast hx hb hK hP hD hS 0 1 rfl rfl (i_in rfl (lg_X1_share_6 r_1 i_5 n5 i_8 o_8 n8 r_13 h_2 t_4 hi5_0 hmu5 t_7 hi8_0 hmu8 t_10 t_12 h_14)) dX1_share_108 ?_
              clear hP hD hS; intro H locs hP hD hS
              change va_P (dC, dI) vwCl [(o_coins, .inl (k_coins, 10, .inl (upd ga_o_coins_8 (Int32.toNatClampNeg r_13) x_17))), (o_came, .inl (k_came, 10, .inl f_came)), (h0, .inr (1, [.ref o_came, .ref o_coins, .ref o_rem])), (o_rem, .inl (k_rem, 10, .inr (.inl ga_o_rem_8)))] H at hP
              change va_D A [(o_coins, .inl (k_coins, 10, .inl (upd ga_o_coins_8 (Int32.toNatClampNeg r_13) x_17))), (o_came, .inl (k_came, 10, .inl f_came)), (h0, .inr (1, [.ref o_came, .ref o_coins, .ref o_rem])), (o_rem, .inl (k_rem, 10, .inr (.inl ga_o_rem_8)))] at hD
              generalize upd ga_o_coins_8 (Int32.toNatClampNeg r_13) x_17 = g_20 at hP hD
              refine lv_aload_n hx hb dX1_share_109 rfl (lv_at hl 4 rfl) ?_
              refine va_get (D := (dC, dI)) (ci := 1) (v := .ref o_rem) (C := RX1) (T := TX1) (N := 3) hx hb htb iX1 hown hK hP 2 rfl rfl 2 (Nat.le_of_ble_eq_true rfl) (htb _ m_221) (fun _ h9 => h9) rfl dX1_share_110 ?_
              refine lv_iload hx hb dX1_share_113 (lv_at hl 0 rfl) ?_
              refine lv_lconst (v := 0) hx hb dX1_share_115 (by decide) ?_
              refine va_last hx hb hK hP hD hS 3 2 rfl rfl (i_in rfl (lg_X1_share_6 r_1 i_5 n5 i_8 o_8 n8 r_13 h_2 t_4 hi5_0 hmu5 t_7 hi8_0 hmu8 t_10 t_12 h_14)) dX1_share_116 ?_
              clear hP hD hS; intro H locs hP hD hS
              change va_P (dC, dI) vwCl [(o_coins, .inl (k_coins, 10, .inl g_20)), (o_came, .inl (k_came, 10, .inl f_came)), (h0, .inr (1, [.ref o_came, .ref o_coins, .ref o_rem])), (o_rem, .inl (k_rem, 10, .inr (.inl (vp_updL ga_o_rem_8 (Int32.toNatClampNeg r_13) 0))))] H at hP
              change va_D A [(o_coins, .inl (k_coins, 10, .inl g_20)), (o_came, .inl (k_came, 10, .inl f_came)), (h0, .inr (1, [.ref o_came, .ref o_coins, .ref o_rem])), (o_rem, .inl (k_rem, 10, .inr (.inl (vp_updL ga_o_rem_8 (Int32.toNatClampNeg r_13) 0))))] at hD
              generalize vp_updL ga_o_rem_8 (Int32.toNatClampNeg r_13) 0 = g_21 at hP hD
              obtain ⟨x_22, ex_23⟩ : ∃ y : Int32, y = o_8 + Int32.ofInt (-1) := ⟨_, rfl⟩
              refine lv_iinc (v := x_22) (lv' := [(3, .int x_22), (5, .int r_13), (4, .int i_8), (2, .int r_1), (0, .ref h0), (1, .int v1)]) hx hb dX1_share_117 hl (k := 2) rfl ex_23.symm (by decide) rfl ?_
              clear hl; intro ls hl
              obtain ⟨x_25, ex_26⟩ : ∃ y : Int32, y = i_8 + Int32.ofInt 1 := ⟨_, rfl⟩
              have t_27 : x_25.toInt = i_8.toInt + 1 := i_add rfl (by decide) (lg_X1_share_7 r_1 i_5 n5 i_8 o_8 n8 r_13 h_2 t_4 hi5_0 hmu5 t_7 hi8_0 hmu8 t_10 t_12 h_14) ex_26
              refine lv_iinc (v := x_25) (lv' := [(4, .int x_25), (3, .int x_22), (5, .int r_13), (2, .int r_1), (0, .ref h0), (1, .int v1)]) hx hb dX1_share_120 hl (k := 2) rfl ex_26.symm (by decide) rfl ?_
              clear hl; intro ls hl
              refine lv_goto (tgt := 81) hx hb dX1_share_123 (by decide) ?_
              exact ih8 x_25 x_22 g_20 g_21 H locs ls (lg_X1_share_8 r_1 i_5 n5 i_8 o_8 n8 r_13 x_25 h_2 t_4 hi5_0 hmu5 t_7 hi8_0 hmu8 t_10 t_12 h_14 t_27) (lg_X1_share_9 r_1 i_5 n5 i_8 o_8 n8 r_13 x_25 h_2 t_4 hi5_0 hmu5 t_7 hi8_0 hmu8 t_10 t_12 h_14 t_27)   (lv_sub hl [0, 1, 3, 4, 5] rfl) (hP.sub [0, 3, 2, 1] rfl) (hD.sub [0, 3, 2, 1] (by decide) rfl) hS
      · have t_7 : i_5.toInt < (10 : Int) := i_nle (by decide) rfl c_6
        refine lv_iload_n hx hb dX1_share_22 rfl (lv_at hl 4 rfl) ?_
        refine lv_i2l hx hb dX1_share_23 rfl ?_
        refine lv_topl (fun x_28 ex_29 => ?_)
        refine lv_aload_n hx hb dX1_share_24 rfl (lv_at hl 3 rfl) ?_
        refine va_get (D := (dC, dI)) (ci := 1) (v := .ref o_came) (C := RX1) (T := TX1) (N := 3) hx hb htb iX1 hown hK hP 2 rfl rfl 0 (Nat.le_of_ble_eq_true rfl) (htb _ m_219) (fun _ h9 => h9) rfl dX1_share_25 ?_
        refine lv_iload hx hb dX1_share_28 (lv_at hl 0 rfl) ?_
        refine va_iald hx hb hK hP 3 0 rfl rfl (i_in rfl (lg_X1_share_10 r_1 i_5 n5 h_2 t_4 hi5_0 hmu5 t_7)) dX1_share_30 ?_
        refine lv_topi (fun x_30 ex_31 => ?_)
        refine lv_i2l hx hb dX1_share_31 rfl ?_
        refine lv_topl (fun x_32 ex_33 => ?_)
        refine lv_lmul hx hb dX1_share_32 ?_
        refine lv_topl (fun x_34 ex_35 => ?_)
        refine lv_lstore (lv' := [(5, .long x_34), (4, .int i_5), (3, .int o_5), (2, .int r_1), (0, .ref h0), (1, .int v1)]) hx hb dX1_share_33 hl (by decide) rfl ?_
        clear hl; intro ls hl
        refine lv_lload hx hb dX1_share_35 (lv_at hl 0 rfl) ?_
        refine lv_iload_n hx hb dX1_share_37 rfl (lv_at hl 3 rfl) ?_
        refine lv_i2l hx hb dX1_share_38 rfl ?_
        refine lv_topl (fun x_36 ex_37 => ?_)
        refine lv_ldiv hx hb dX1_share_39 (i_lne ex_37 (lg_X1_share_11 r_1 i_5 n5 h_2 t_4 hi5_0 hmu5 t_7)) ?_
        refine lv_topl (fun x_38 ex_39 => ?_)
        refine lv_l2i hx hb dX1_share_40 rfl ?_
        refine lv_topi (fun x_40 ex_41 => ?_)
        refine lv_istore (lv' := [(7, .int x_40), (5, .long x_34), (4, .int i_5), (3, .int o_5), (2, .int r_1), (0, .ref h0), (1, .int v1)]) hx hb dX1_share_41 hl (by decide) rfl ?_
        clear hl; intro ls hl
        refine lv_aload_n hx hb dX1_share_43 rfl (lv_at hl 5 rfl) ?_
        refine va_get (D := (dC, dI)) (ci := 1) (v := .ref o_coins) (C := RX1) (T := TX1) (N := 3) hx hb htb iX1 hown hK hP 2 rfl rfl 1 (Nat.le_of_ble_eq_true rfl) (htb _ m_220) (fun _ h9 => h9) rfl dX1_share_44 ?_
        refine lv_iload hx hb dX1_share_47 (lv_at hl 2 rfl) ?_
        refine lv_dup2_11 hx hb dX1_share_49 rfl rfl ?_
        refine va_iald hx hb hK hP 0 1 rfl rfl (i_in rfl (lg_X1_share_10 r_1 i_5 n5 h_2 t_4 hi5_0 hmu5 t_7)) dX1_share_50 ?_
        refine lv_topi (fun x_42 ex_43 => ?_)
        refine lv_iload hx hb dX1_share_51 (lv_at hl 0 rfl) ?_
        refine lv_iadd hx hb dX1_share_53 ?_
        refine lv_topi (fun x_44 ex_45 => ?_)
        refine va_iast hx hb hK hP hD hS 0 1 rfl rfl (i_in rfl (lg_X1_share_10 r_1 i_5 n5 h_2 t_4 hi5_0 hmu5 t_7)) dX1_share_54 ?_
        clear hP hD hS; intro H locs hP hD hS
        change va_P (dC, dI) vwCl [(o_coins, .inl (k_coins, 10, .inl (upd ga_o_coins_5 (Int32.toNatClampNeg i_5) x_44))), (o_rem, .inl (k_rem, 10, .inr (.inl ga_o_rem_5))), (h0, .inr (1, [.ref o_came, .ref o_coins, .ref o_rem])), (o_came, .inl (k_came, 10, .inl f_came))] H at hP
        change va_D A [(o_coins, .inl (k_coins, 10, .inl (upd ga_o_coins_5 (Int32.toNatClampNeg i_5) x_44))), (o_rem, .inl (k_rem, 10, .inr (.inl ga_o_rem_5))), (h0, .inr (1, [.ref o_came, .ref o_coins, .ref o_rem])), (o_came, .inl (k_came, 10, .inl f_came))] at hD
        generalize upd ga_o_coins_5 (Int32.toNatClampNeg i_5) x_44 = g_47 at hP hD
        refine lv_iload_n hx hb dX1_share_55 rfl (lv_at hl 3 rfl) ?_
        refine lv_iload hx hb dX1_share_56 (lv_at hl 0 rfl) ?_
        refine lv_isub hx hb dX1_share_58 ?_
        refine lv_topi (fun x_48 ex_49 => ?_)
        refine lv_istore_n (lv' := [(3, .int x_48), (7, .int x_40), (5, .long x_34), (4, .int i_5), (2, .int r_1), (0, .ref h0), (1, .int v1)]) hx hb dX1_share_59 rfl hl (by decide) rfl ?_
        clear hl; intro ls hl
        refine lv_aload_n hx hb dX1_share_60 rfl (lv_at hl 5 rfl) ?_
        refine va_get (D := (dC, dI)) (ci := 1) (v := .ref o_rem) (C := RX1) (T := TX1) (N := 3) hx hb htb iX1 hown hK hP 2 rfl rfl 2 (Nat.le_of_ble_eq_true rfl) (htb _ m_221) (fun _ h9 => h9) rfl dX1_share_61 ?_
        refine lv_iload hx hb dX1_share_64 (lv_at hl 3 rfl) ?_
        refine lv_lload hx hb dX1_share_66 (lv_at hl 2 rfl) ?_
        refine lv_iload_n hx hb dX1_share_68 rfl (lv_at hl 4 rfl) ?_
        refine lv_i2l hx hb dX1_share_69 rfl ?_
        refine lv_topl (fun x_51 ex_52 => ?_)
        refine lv_lrem hx hb dX1_share_70 (i_lne ex_52 (lg_X1_share_11 r_1 i_5 n5 h_2 t_4 hi5_0 hmu5 t_7)) ?_
        refine lv_topl (fun x_53 ex_54 => ?_)
        refine va_last hx hb hK hP hD hS 1 2 rfl rfl (i_in rfl (lg_X1_share_10 r_1 i_5 n5 h_2 t_4 hi5_0 hmu5 t_7)) dX1_share_71 ?_
        clear hP hD hS; intro H locs hP hD hS
        change va_P (dC, dI) vwCl [(o_coins, .inl (k_coins, 10, .inl g_47)), (o_rem, .inl (k_rem, 10, .inr (.inl (vp_updL ga_o_rem_5 (Int32.toNatClampNeg i_5) x_53)))), (h0, .inr (1, [.ref o_came, .ref o_coins, .ref o_rem])), (o_came, .inl (k_came, 10, .inl f_came))] H at hP
        change va_D A [(o_coins, .inl (k_coins, 10, .inl g_47)), (o_rem, .inl (k_rem, 10, .inr (.inl (vp_updL ga_o_rem_5 (Int32.toNatClampNeg i_5) x_53)))), (h0, .inr (1, [.ref o_came, .ref o_coins, .ref o_rem])), (o_came, .inl (k_came, 10, .inl f_came))] at hD
        generalize vp_updL ga_o_rem_5 (Int32.toNatClampNeg i_5) x_53 = g_55 at hP hD
        obtain ⟨x_56, ex_57⟩ : ∃ y : Int32, y = i_5 + Int32.ofInt 1 := ⟨_, rfl⟩
        have t_58 : x_56.toInt = i_5.toInt + 1 := i_add rfl (by decide) (lg_X1_share_12 r_1 i_5 n5 h_2 t_4 hi5_0 hmu5 t_7) ex_57
        refine lv_iinc (v := x_56) (lv' := [(4, .int x_56), (3, .int x_48), (7, .int x_40), (5, .long x_34), (2, .int r_1), (0, .ref h0), (1, .int v1)]) hx hb dX1_share_72 hl (k := 3) rfl ex_57.symm (by decide) rfl ?_
        clear hl; intro ls hl
        refine lv_goto (tgt := 15) hx hb dX1_share_75 (by decide) ?_
        exact ih5 x_56 x_48 g_47 g_55 H locs ls (lg_X1_share_13 r_1 i_5 n5 x_56 h_2 t_4 hi5_0 hmu5 t_7 t_58) (lg_X1_share_14 r_1 i_5 n5 x_56 h_2 t_4 hi5_0 hmu5 t_7 t_58)   (lv_sub hl [0, 1, 4, 5, 6] rfl) (hP.sub [0, 1, 2, 3] rfl) (hD.sub [0, 1, 2, 3] (by decide) rfl) hS
  · have t_4 : r_1.toInt ≤ (0 : Int) := i_nlt (by decide) rfl c_3
    refine W.widen (k := 0) (n := 0) (Nat.le_of_ble_eq_true rfl) (Nat.le_of_ble_eq_true rfl) ?_
    have hP9 := hP.sub (ws' := [(h0, .inr (1, [.ref o_came, .ref o_coins, .ref o_rem])), (o_came, .inl (k_came, 10, .inl f_came)), (o_coins, .inl (k_coins, 10, .inl f_coins)), (o_rem, .inl (k_rem, 10, .inr (.inl f_rem)))]) [2, 3, 0, 1] rfl
    have hD9 := hD.sub (ws' := [(h0, .inr (1, [.ref o_came, .ref o_coins, .ref o_rem])), (o_came, .inl (k_came, 10, .inl f_came)), (o_coins, .inl (k_coins, 10, .inl f_coins)), (o_rem, .inl (k_rem, 10, .inr (.inl f_rem)))]) [2, 3, 0, 1] (by decide) rfl
    have hK9 := hK.sub (tys' := []) [] rfl
    exact W.vret hx hb hr (fun t ht hW => ⟨⟨(), rfl, trivial, ⟨f_coins, f_rem, by rw [ht]; exact hP9, va_K.moved hW.alike hK9, hD9⟩⟩, hS.F ht⟩) hS.2.2 dX1_share_9

theorem lg_X9_append_0 (n_ta : Int32) (n_to : Int32) (n_tl : Int32) (yq : 0 ≤ n_ta.toInt ∧ n_ta.toInt ≤ 600 ∧ 0 ≤ n_to.toInt ∧ n_to.toInt ≤ 600 ∧ 0 ≤ n_tl.toInt ∧ n_tl.toInt ≤ 600) : 0 ≤ (4 : Int) ∧ (4 : Int) ≤ 600 := by
  have := rg_rng n_ta; have := rg_rng n_to; have := rg_rng n_tl; omega
theorem lg_X9_append_1 (n_ta : Int32) (n_to : Int32) (n_tl : Int32) (yq : 0 ≤ n_ta.toInt ∧ n_ta.toInt ≤ 600 ∧ 0 ≤ n_to.toInt ∧ n_to.toInt ≤ 600 ∧ 0 ≤ n_tl.toInt ∧ n_tl.toInt ≤ 600) (h_2 : n_ta.toInt + (4 : Int) ≤ 600) : 0 ≤ n_ta.toInt ∧ n_ta.toInt < ((600 : Nat) : Int) := by
  have := rg_rng n_ta; have := rg_rng n_to; have := rg_rng n_tl; omega
theorem lg_X9_append_2 (n_ta : Int32) (n_to : Int32) (n_tl : Int32) (yq : 0 ≤ n_ta.toInt ∧ n_ta.toInt ≤ 600 ∧ 0 ≤ n_to.toInt ∧ n_to.toInt ≤ 600 ∧ 0 ≤ n_tl.toInt ∧ n_tl.toInt ≤ 600) (h_2 : n_ta.toInt + (4 : Int) ≤ 600) : -2147483648 ≤ n_ta.toInt + (1 : Int) ∧ n_ta.toInt + (1 : Int) < 2147483648 := by
  have := rg_rng n_ta; have := rg_rng n_to; have := rg_rng n_tl; omega
theorem lg_X9_append_3 (n_ta : Int32) (n_to : Int32) (n_tl : Int32) (x_11 : Int32) (yq : 0 ≤ n_ta.toInt ∧ n_ta.toInt ≤ 600 ∧ 0 ≤ n_to.toInt ∧ n_to.toInt ≤ 600 ∧ 0 ≤ n_tl.toInt ∧ n_tl.toInt ≤ 600) (h_2 : n_ta.toInt + (4 : Int) ≤ 600) (t_13 : x_11.toInt = n_ta.toInt + (1 : Int)) : 0 ≤ x_11.toInt ∧ x_11.toInt < ((600 : Nat) : Int) := by
  have := rg_rng n_ta; have := rg_rng n_to; have := rg_rng n_tl; have := rg_rng x_11; omega
theorem lg_X9_append_4 (n_ta : Int32) (n_to : Int32) (n_tl : Int32) (x_11 : Int32) (yq : 0 ≤ n_ta.toInt ∧ n_ta.toInt ≤ 600 ∧ 0 ≤ n_to.toInt ∧ n_to.toInt ≤ 600 ∧ 0 ≤ n_tl.toInt ∧ n_tl.toInt ≤ 600) (h_2 : n_ta.toInt + (4 : Int) ≤ 600) (t_13 : x_11.toInt = n_ta.toInt + (1 : Int)) : -2147483648 ≤ x_11.toInt + (1 : Int) ∧ x_11.toInt + (1 : Int) < 2147483648 := by
  have := rg_rng n_ta; have := rg_rng n_to; have := rg_rng n_tl; have := rg_rng x_11; omega
theorem lg_X9_append_5 (n_ta : Int32) (n_to : Int32) (n_tl : Int32) (x_11 : Int32) (x_21 : Int32) (yq : 0 ≤ n_ta.toInt ∧ n_ta.toInt ≤ 600 ∧ 0 ≤ n_to.toInt ∧ n_to.toInt ≤ 600 ∧ 0 ≤ n_tl.toInt ∧ n_tl.toInt ≤ 600) (h_2 : n_ta.toInt + (4 : Int) ≤ 600) (t_13 : x_11.toInt = n_ta.toInt + (1 : Int)) (t_23 : x_21.toInt = x_11.toInt + (1 : Int)) : 0 ≤ x_21.toInt ∧ x_21.toInt < ((600 : Nat) : Int) := by
  have := rg_rng n_ta; have := rg_rng n_to; have := rg_rng n_tl; have := rg_rng x_11; have := rg_rng x_21; omega
theorem lg_X9_append_6 (n_ta : Int32) (n_to : Int32) (n_tl : Int32) (x_11 : Int32) (x_21 : Int32) (yq : 0 ≤ n_ta.toInt ∧ n_ta.toInt ≤ 600 ∧ 0 ≤ n_to.toInt ∧ n_to.toInt ≤ 600 ∧ 0 ≤ n_tl.toInt ∧ n_tl.toInt ≤ 600) (h_2 : n_ta.toInt + (4 : Int) ≤ 600) (t_13 : x_11.toInt = n_ta.toInt + (1 : Int)) (t_23 : x_21.toInt = x_11.toInt + (1 : Int)) : -2147483648 ≤ x_21.toInt + (1 : Int) ∧ x_21.toInt + (1 : Int) < 2147483648 := by
  have := rg_rng n_ta; have := rg_rng n_to; have := rg_rng n_tl; have := rg_rng x_11; have := rg_rng x_21; omega
theorem lg_X9_append_7 (n_ta : Int32) (n_to : Int32) (n_tl : Int32) (x_11 : Int32) (x_21 : Int32) (x_31 : Int32) (yq : 0 ≤ n_ta.toInt ∧ n_ta.toInt ≤ 600 ∧ 0 ≤ n_to.toInt ∧ n_to.toInt ≤ 600 ∧ 0 ≤ n_tl.toInt ∧ n_tl.toInt ≤ 600) (h_2 : n_ta.toInt + (4 : Int) ≤ 600) (t_13 : x_11.toInt = n_ta.toInt + (1 : Int)) (t_23 : x_21.toInt = x_11.toInt + (1 : Int)) (t_33 : x_31.toInt = x_21.toInt + (1 : Int)) : 0 ≤ x_31.toInt ∧ x_31.toInt < ((600 : Nat) : Int) := by
  have := rg_rng n_ta; have := rg_rng n_to; have := rg_rng n_tl; have := rg_rng x_11; have := rg_rng x_21; have := rg_rng x_31; omega
theorem lg_X9_append_8 (n_ta : Int32) (n_to : Int32) (n_tl : Int32) (x_11 : Int32) (x_21 : Int32) (x_31 : Int32) (yq : 0 ≤ n_ta.toInt ∧ n_ta.toInt ≤ 600 ∧ 0 ≤ n_to.toInt ∧ n_to.toInt ≤ 600 ∧ 0 ≤ n_tl.toInt ∧ n_tl.toInt ≤ 600) (h_2 : n_ta.toInt + (4 : Int) ≤ 600) (t_13 : x_11.toInt = n_ta.toInt + (1 : Int)) (t_23 : x_21.toInt = x_11.toInt + (1 : Int)) (t_33 : x_31.toInt = x_21.toInt + (1 : Int)) : -2147483648 ≤ x_31.toInt + (1 : Int) ∧ x_31.toInt + (1 : Int) < 2147483648 := by
  have := rg_rng n_ta; have := rg_rng n_to; have := rg_rng n_tl; have := rg_rng x_11; have := rg_rng x_21; have := rg_rng x_31; omega
theorem lg_X9_append_9 (n_ta : Int32) (n_to : Int32) (n_tl : Int32) (x_11 : Int32) (x_21 : Int32) (x_31 : Int32) (x_41 : Int32) (yq : 0 ≤ n_ta.toInt ∧ n_ta.toInt ≤ 600 ∧ 0 ≤ n_to.toInt ∧ n_to.toInt ≤ 600 ∧ 0 ≤ n_tl.toInt ∧ n_tl.toInt ≤ 600) (h_2 : n_ta.toInt + (4 : Int) ≤ 600) (t_13 : x_11.toInt = n_ta.toInt + (1 : Int)) (t_23 : x_21.toInt = x_11.toInt + (1 : Int)) (t_33 : x_31.toInt = x_21.toInt + (1 : Int)) (t_43 : x_41.toInt = x_31.toInt + (1 : Int)) : (n_ta.toInt + 4 ≤ 600 ∧ x_41.toInt = n_ta.toInt + 4) ∨ (600 < n_ta.toInt + 4 ∧ x_41.toInt = n_ta.toInt) := by
  have := rg_rng n_ta; have := rg_rng n_to; have := rg_rng n_tl; have := rg_rng x_11; have := rg_rng x_21; have := rg_rng x_31; have := rg_rng x_41; omega
theorem lg_X9_append_10 (n_ta : Int32) (n_to : Int32) (n_tl : Int32) (x_11 : Int32) (x_21 : Int32) (x_31 : Int32) (x_41 : Int32) (yq : 0 ≤ n_ta.toInt ∧ n_ta.toInt ≤ 600 ∧ 0 ≤ n_to.toInt ∧ n_to.toInt ≤ 600 ∧ 0 ≤ n_tl.toInt ∧ n_tl.toInt ≤ 600) (h_2 : n_ta.toInt + (4 : Int) ≤ 600) (t_13 : x_11.toInt = n_ta.toInt + (1 : Int)) (t_23 : x_21.toInt = x_11.toInt + (1 : Int)) (t_33 : x_31.toInt = x_21.toInt + (1 : Int)) (t_43 : x_41.toInt = x_31.toInt + (1 : Int)) : 0 ≤ n_ta.toInt ∧ x_11.toInt = n_ta.toInt + 1 ∧ x_21.toInt = n_ta.toInt + 2 ∧ x_31.toInt = n_ta.toInt + 3 := by
  have := rg_rng n_ta; have := rg_rng n_to; have := rg_rng n_tl; have := rg_rng x_11; have := rg_rng x_21; have := rg_rng x_31; have := rg_rng x_41; omega
theorem lg_X9_append_11 (n_ta : Int32) (n_to : Int32) (n_tl : Int32) (yq : 0 ≤ n_ta.toInt ∧ n_ta.toInt ≤ 600 ∧ 0 ≤ n_to.toInt ∧ n_to.toInt ≤ 600 ∧ 0 ≤ n_tl.toInt ∧ n_tl.toInt ≤ 600) (h_2 : 600 < n_ta.toInt + (4 : Int)) : (n_ta.toInt + 4 ≤ 600 ∧ n_ta.toInt = n_ta.toInt + 4) ∨ (600 < n_ta.toInt + 4 ∧ n_ta.toInt = n_ta.toInt) := by
  have := rg_rng n_ta; have := rg_rng n_to; have := rg_rng n_tl; omega
theorem lg_X9_append_12 (n_ta : Int32) (n_to : Int32) (n_tl : Int32) (yq : 0 ≤ n_ta.toInt ∧ n_ta.toInt ≤ 600 ∧ 0 ≤ n_to.toInt ∧ n_to.toInt ≤ 600 ∧ 0 ≤ n_tl.toInt ∧ n_tl.toInt ≤ 600) (h_2 : 600 < n_ta.toInt + (4 : Int)) : ¬ n_ta.toInt + 4 ≤ 600 := by
  have := rg_rng n_ta; have := rg_rng n_to; have := rg_rng n_tl; omega
set_option maxHeartbeats 4000000 in
set_option maxRecDepth 100000 in
theorem kX9_append (l : Launch) (dC : Nat → ClassId) (dI : Nat → Nat → Nat) (sz : Nat) (h0 : Nat) (p_bytes : Nat) (p_ts : Nat) (p_tc : Nat) (n_ta : Int32) (n_to : Int32) (n_tl : Int32) (k_bytes : ClassId) (f_bytes : Nat → Int32) (v1 : Int32) (yq : 0 ≤ n_ta.toInt ∧ n_ta.toInt ≤ 600 ∧ 0 ≤ n_to.toInt ∧ n_to.toInt ≤ 600 ∧ 0 ≤ n_tl.toInt ∧ n_tl.toInt ≤ 600) : Met l yX9_append (Cond.code yX9_append cX9_append 3 none :: bg) ({ frames := 1, cells := 0, slots := 0, locals := 21 }) (pcW dC dI [.ref h0, .int v1] sz [(h0, .inr (9, [.ref p_bytes, .ref p_ts, .ref p_tc, .int n_ta, .int n_to, .int n_tl])), (p_bytes, .inl (k_bytes, 600, .inl f_bytes))] [(k_bytes, .byte)]) (va_Qv (fun (u : Unit) => True) (fun (u : Unit) (t : State) => ∃ (w_ta : Int32) (w_bytes : Nat → Int32), ((n_ta.toInt + 4 ≤ 600 ∧ w_ta.toInt = n_ta.toInt + 4) ∨ (600 < n_ta.toInt + 4 ∧ w_ta.toInt = n_ta.toInt)) ∧ Ap w_bytes f_bytes n_ta v1 ∧ va_P (dC, dI) vwCl [(h0, .inr (9, [.ref p_bytes, .ref p_ts, .ref p_tc, .int w_ta, .int n_to, .int n_tl])), (p_bytes, .inl (k_bytes, 600, .inl w_bytes))] t.heap ∧ va_K (dC, dI) vwCl [] t ∧ va_D (va_A [(h0, .inr (9, [.ref p_bytes, .ref p_ts, .ref p_tc, .int n_ta, .int n_to, .int n_tl])), (p_bytes, .inl (k_bytes, 600, .inl f_bytes))] sz) [(h0, .inr (9, [.ref p_bytes, .ref p_ts, .ref p_tc, .int w_ta, .int n_to, .int n_tl])), (p_bytes, .inl (k_bytes, 600, .inl w_bytes))]) (va_A [(h0, .inr (9, [.ref p_bytes, .ref p_ts, .ref p_tc, .int n_ta, .int n_to, .int n_tl])), (p_bytes, .inl (k_bytes, 600, .inl f_bytes))] sz)) 0 0 (va_A [(h0, .inr (9, [.ref p_bytes, .ref p_ts, .ref p_tc, .int n_ta, .int n_to, .int n_tl])), (p_bytes, .inl (k_bytes, 600, .inl f_bytes))] sz) := by
  refine Met.ofW (cc := cX9_append) (maxL := 3) (ret := none) pnX9 rfl ?_
  intro p e s m args below meth c s₁ B hml hv
  obtain ⟨rfl, hsz, hP, hK, hD0, hN⟩ := hv
  have hx := B.exec
  have hb := B.bytes
  have hr := B.returns
  have htb : ∀ w ∈ bg, w.before [.ref h0, .int v1].toArray s = true := fun w h => atoms_spec (ws := Cond.code yX9_append cX9_append 3 none :: bg) B.pre w (List.mem_cons_of_mem _ h)
  have hown : s.vm.findClass RX9 = some m.cls := findClass_of_methodNamed B.named
  have hlocks := B.notSynchronized
  subst hsz
  have hD := hD0.self (sz := s.heap.size)
  generalize hAe : va_A [(h0, .inr (9, [.ref p_bytes, .ref p_ts, .ref p_tc, .int n_ta, .int n_to, .int n_tl])), (p_bytes, .inl (k_bytes, 600, .inl f_bytes))] s.heap.size = A at hD ⊢
  have hA : ∀ q : Nat, s.heap.size ≤ q → A q := fun q h => by rw [← hAe]; exact Or.inr h
  have hS : va_S A s.heap s.heap [] := va_S.rf
  have hl := lv_entry ([.ref h0, .int v1]) (n := 3) (Nat.le_of_ble_eq_true rfl)
  rw [lg_entry_eq]
  generalize (lg_sl ([.ref h0, .int v1]) ++ List.replicate (3 - (lg_sl ([.ref h0, .int v1])).length) Slot.unset).toArray = ls at hl ⊢
  change lv_has ls 3 [(0, .ref h0), (1, .int v1)] at hl
  clear hD0 hAe
  refine go0 (wsP := fun H => va_P (dC, dI) vwCl [(h0, .inr (9, [.ref p_bytes, .ref p_ts, .ref p_tc, .int n_ta, .int n_to, .int n_tl])), (p_bytes, .inl (k_bytes, 600, .inl f_bytes))] H) hP hS ?_
  clear hP hS; intro H locs hP hS
  change va_P (dC, dI) vwCl [(h0, .inr (9, [.ref p_bytes, .ref p_ts, .ref p_tc, .int n_ta, .int n_to, .int n_tl])), (p_bytes, .inl (k_bytes, 600, .inl f_bytes))] H at hP
  refine lv_aload_n hx hb dX9_append_0 rfl (lv_at hl 0 rfl) ?_
  refine lv_iconst (v := 4) hx hb dX9_append_1 (by decide) ?_
  have hPc := hP.sub (ws' := [(h0, .inr (9, [.ref p_bytes, .ref p_ts, .ref p_tc, .int n_ta, .int n_to, .int n_tl]))]) [0] rfl
  have hDc := hD.sub (ws' := [(h0, .inr (9, [.ref p_bytes, .ref p_ts, .ref p_tc, .int n_ta, .int n_to, .int n_tl]))]) [0] (by decide) rfl
  have hKc := hK.sub (tys' := []) [] rfl
  have hFc := va_free (wc := [(h0, .inr (9, [.ref p_bytes, .ref p_ts, .ref p_tc, .int n_ta, .int n_to, .int n_tl]))]) hD hS hA [0] rfl
  refine va_calli (va_runV (C := RX9) (As := [.int 4]) (rest := []) ⟨hx, hb, hml, hown, htb⟩ (kX9_hasRoomFor l dC dI H.size h0 p_bytes p_ts p_tc n_ta n_to n_tl 4 (lg_X9_append_0 n_ta n_to n_tl yq)) ⟨callB_of 1 htb (gd_c m_794) rfl rfl rfl (htb _ m_10) (htb _ m_799) hdX9_hasRoomFor ⟨(Nat.le_of_ble_eq_true rfl), (Nat.le_of_ble_eq_true rfl)⟩, htb _ m_792, htb _ m_793⟩ ⟨pcW_blind, va_recv hKc hPc (ci := 9) (q0 := 0) rfl rfl, pcW_at hPc hKc hDc hN⟩ rfl rfl hl.1 rfl (lv_room (Nat.le_of_ble_eq_true rfl)) dX9_append_2 ⟨(Nat.le_of_ble_eq_true rfl), (Nat.le_of_ble_eq_true rfl)⟩) hS (fun q _ h => hFc q h) hFc (fun r_1 u t H1 locs1 ht hvm h_2 hB hz1 hk1 hS1 => ?_)
  obtain ⟨hP1, hK1, hD1⟩ := hB
  rw [ht] at hP1
  obtain ⟨hPn, hDn⟩ := va_join (wr := [(p_bytes, .inl (k_bytes, 600, .inl f_bytes))]) (w1 := [(h0, .inr (9, [.ref p_bytes, .ref p_ts, .ref p_tc, .int n_ta, .int n_to, .int n_tl]))]) hP hD [0] [1] rfl rfl (by decide) (by decide) hk1 hFc hP1 hD1
  clear hP1 hD1 hK1
  clear hP hD hS hPc hDc hKc hFc hk1 hz1 ht hvm
  clear t
  revert hS1 hPn hDn; generalize H1 = H; generalize locs1 = locs; intro hS hP hD
  change va_P (dC, dI) vwCl [(p_bytes, .inl (k_bytes, 600, .inl f_bytes)), (h0, .inr (9, [.ref p_bytes, .ref p_ts, .ref p_tc, .int n_ta, .int n_to, .int n_tl]))] H at hP
  change va_D A [(p_bytes, .inl (k_bytes, 600, .inl f_bytes)), (h0, .inr (9, [.ref p_bytes, .ref p_ts, .ref p_tc, .int n_ta, .int n_to, .int n_tl]))] at hD
  rcases h_2 with ⟨rfl, h_2⟩ | ⟨rfl, h_2⟩
  · refine lv_if_ne (tgt := 9) hx hb dX9_append_5 (by decide) ?_ (fun c_3 => absurd c_3 (by decide))
    intro _
    refine lv_bipush (v := 24) hx hb dX9_append_9 (by decide) ?_
    refine lv_istore_n (lv' := [(2, .int 24), (0, .ref h0), (1, .int v1)]) hx hb dX9_append_11 rfl hl (by decide) rfl ?_
    clear hl; intro ls hl
    refine lv_iload_n hx hb dX9_append_12 rfl (lv_at hl 0 rfl) ?_
    refine lv_if_lt (tgt := 45) hx hb dX9_append_13 (by decide) (fun c_4 => absurd c_4 (by decide)) ?_
    intro _
    refine lv_aload_n hx hb dX9_append_16 rfl (lv_at hl 1 rfl) ?_
    refine va_get (D := (dC, dI)) (ci := 9) (v := .ref p_bytes) (C := RX9) (T := TX9) (N := 6) hx hb htb iX9 hown hK hP 1 rfl rfl 0 (Nat.le_of_ble_eq_true rfl) (htb _ m_236) (fun _ h9 => h9) rfl dX9_append_17 ?_
    refine lv_aload_n hx hb dX9_append_20 rfl (lv_at hl 1 rfl) ?_
    refine va_get (D := (dC, dI)) (ci := 9) (v := .int n_ta) (C := RX9) (T := TX9) (N := 6) hx hb htb iX9 hown hK hP 1 rfl rfl 3 (Nat.le_of_ble_eq_true rfl) (htb _ m_239) (fun _ h9 => h9) rfl dX9_append_21 ?_
    refine lv_iload_n hx hb dX9_append_24 rfl (lv_at hl 2 rfl) ?_
    refine lv_iload_n hx hb dX9_append_25 rfl (lv_at hl 0 rfl) ?_
    refine lv_iushr hx hb dX9_append_26 rfl ?_
    refine lv_topi (fun x_5 ex_6 => ?_)
    refine lv_i2b hx hb dX9_append_27 rfl ?_
    refine lv_topi (fun x_7 ex_8 => ?_)
    refine va_bast hx hb hK hP hD hS 0 0 rfl rfl (i_in rfl (lg_X9_append_1 n_ta n_to n_tl yq h_2)) dX9_append_28 ?_
    clear hP hD hS; intro H locs hP hD hS
    change va_P (dC, dI) vwCl [(p_bytes, .inl (k_bytes, 600, .inl (upd f_bytes (Int32.toNatClampNeg n_ta) (vp_nar .byte x_7)))), (h0, .inr (9, [.ref p_bytes, .ref p_ts, .ref p_tc, .int n_ta, .int n_to, .int n_tl]))] H at hP
    change va_D A [(p_bytes, .inl (k_bytes, 600, .inl (upd f_bytes (Int32.toNatClampNeg n_ta) (vp_nar .byte x_7)))), (h0, .inr (9, [.ref p_bytes, .ref p_ts, .ref p_tc, .int n_ta, .int n_to, .int n_tl]))] at hD
    generalize hG_10 : upd f_bytes (Int32.toNatClampNeg n_ta) (vp_nar .byte x_7) = g_9 at hP hD
    refine lv_aload_n hx hb dX9_append_29 rfl (lv_at hl 1 rfl) ?_
    refine lv_dup hx hb dX9_append_30 rfl ?_
    refine va_get (D := (dC, dI)) (ci := 9) (v := .int n_ta) (C := RX9) (T := TX9) (N := 6) hx hb htb iX9 hown hK hP 1 rfl rfl 3 (Nat.le_of_ble_eq_true rfl) (htb _ m_239) (fun _ h9 => h9) rfl dX9_append_31 ?_
    refine lv_iconst (v := 1) hx hb dX9_append_34 (by decide) ?_
    refine lv_iadd hx hb dX9_append_35 ?_
    refine lv_topi (fun x_11 ex_12 => ?_)
    have t_13 : x_11.toInt = n_ta.toInt + (1 : Int) := i_add rfl (by decide) (lg_X9_append_2 n_ta n_to n_tl yq h_2) ex_12
    refine va_put (D := (dC, dI)) (ci := 9) (v := .int x_11) (C := RX9) (T := TX9) (N := 6) hx hb htb iX9 tyX9 tyX9_ok nmX9 hown hK hP hD hS 1 rfl rfl 3 (Nat.le_of_ble_eq_true rfl) (htb _ m_239) (fun _ h9 => h9) rfl (tyX9_ok 3 (Nat.le_of_ble_eq_true rfl)) rfl rfl (Nat.le_of_ble_eq_true rfl) dX9_append_36 ?_
    clear hP hD hS; intro H locs hP hD hS
    change va_P (dC, dI) vwCl [(p_bytes, .inl (k_bytes, 600, .inl g_9)), (h0, .inr (9, [.ref p_bytes, .ref p_ts, .ref p_tc, .int x_11, .int n_to, .int n_tl]))] H at hP
    change va_D A [(p_bytes, .inl (k_bytes, 600, .inl g_9)), (h0, .inr (9, [.ref p_bytes, .ref p_ts, .ref p_tc, .int x_11, .int n_to, .int n_tl]))] at hD
    refine lv_iinc (v := 16) (lv' := [(2, .int 16), (0, .ref h0), (1, .int v1)]) hx hb dX9_append_39 hl (k := 0) rfl (by decide) (by decide) rfl ?_
    clear hl; intro ls hl
    refine lv_goto (tgt := 12) hx hb dX9_append_42 (by decide) ?_
    refine lv_iload_n hx hb dX9_append_12 rfl (lv_at hl 0 rfl) ?_
    refine lv_if_lt (tgt := 45) hx hb dX9_append_13 (by decide) (fun c_14 => absurd c_14 (by decide)) ?_
    intro _
    refine lv_aload_n hx hb dX9_append_16 rfl (lv_at hl 1 rfl) ?_
    refine va_get (D := (dC, dI)) (ci := 9) (v := .ref p_bytes) (C := RX9) (T := TX9) (N := 6) hx hb htb iX9 hown hK hP 1 rfl rfl 0 (Nat.le_of_ble_eq_true rfl) (htb _ m_236) (fun _ h9 => h9) rfl dX9_append_17 ?_
    refine lv_aload_n hx hb dX9_append_20 rfl (lv_at hl 1 rfl) ?_
    refine va_get (D := (dC, dI)) (ci := 9) (v := .int x_11) (C := RX9) (T := TX9) (N := 6) hx hb htb iX9 hown hK hP 1 rfl rfl 3 (Nat.le_of_ble_eq_true rfl) (htb _ m_239) (fun _ h9 => h9) rfl dX9_append_21 ?_
    refine lv_iload_n hx hb dX9_append_24 rfl (lv_at hl 2 rfl) ?_
    refine lv_iload_n hx hb dX9_append_25 rfl (lv_at hl 0 rfl) ?_
    refine lv_iushr hx hb dX9_append_26 rfl ?_
    refine lv_topi (fun x_15 ex_16 => ?_)
    refine lv_i2b hx hb dX9_append_27 rfl ?_
    refine lv_topi (fun x_17 ex_18 => ?_)
    refine va_bast hx hb hK hP hD hS 0 0 rfl rfl (i_in rfl (lg_X9_append_3 n_ta n_to n_tl x_11 yq h_2 t_13)) dX9_append_28 ?_
    clear hP hD hS; intro H locs hP hD hS
    change va_P (dC, dI) vwCl [(p_bytes, .inl (k_bytes, 600, .inl (upd g_9 (Int32.toNatClampNeg x_11) (vp_nar .byte x_17)))), (h0, .inr (9, [.ref p_bytes, .ref p_ts, .ref p_tc, .int x_11, .int n_to, .int n_tl]))] H at hP
    change va_D A [(p_bytes, .inl (k_bytes, 600, .inl (upd g_9 (Int32.toNatClampNeg x_11) (vp_nar .byte x_17)))), (h0, .inr (9, [.ref p_bytes, .ref p_ts, .ref p_tc, .int x_11, .int n_to, .int n_tl]))] at hD
    generalize hG_20 : upd g_9 (Int32.toNatClampNeg x_11) (vp_nar .byte x_17) = g_19 at hP hD
    refine lv_aload_n hx hb dX9_append_29 rfl (lv_at hl 1 rfl) ?_
    refine lv_dup hx hb dX9_append_30 rfl ?_
    refine va_get (D := (dC, dI)) (ci := 9) (v := .int x_11) (C := RX9) (T := TX9) (N := 6) hx hb htb iX9 hown hK hP 1 rfl rfl 3 (Nat.le_of_ble_eq_true rfl) (htb _ m_239) (fun _ h9 => h9) rfl dX9_append_31 ?_
    refine lv_iconst (v := 1) hx hb dX9_append_34 (by decide) ?_
    refine lv_iadd hx hb dX9_append_35 ?_
    refine lv_topi (fun x_21 ex_22 => ?_)
    have t_23 : x_21.toInt = x_11.toInt + (1 : Int) := i_add rfl (by decide) (lg_X9_append_4 n_ta n_to n_tl x_11 yq h_2 t_13) ex_22
    refine va_put (D := (dC, dI)) (ci := 9) (v := .int x_21) (C := RX9) (T := TX9) (N := 6) hx hb htb iX9 tyX9 tyX9_ok nmX9 hown hK hP hD hS 1 rfl rfl 3 (Nat.le_of_ble_eq_true rfl) (htb _ m_239) (fun _ h9 => h9) rfl (tyX9_ok 3 (Nat.le_of_ble_eq_true rfl)) rfl rfl (Nat.le_of_ble_eq_true rfl) dX9_append_36 ?_
    clear hP hD hS; intro H locs hP hD hS
    change va_P (dC, dI) vwCl [(p_bytes, .inl (k_bytes, 600, .inl g_19)), (h0, .inr (9, [.ref p_bytes, .ref p_ts, .ref p_tc, .int x_21, .int n_to, .int n_tl]))] H at hP
    change va_D A [(p_bytes, .inl (k_bytes, 600, .inl g_19)), (h0, .inr (9, [.ref p_bytes, .ref p_ts, .ref p_tc, .int x_21, .int n_to, .int n_tl]))] at hD
    refine lv_iinc (v := 8) (lv' := [(2, .int 8), (0, .ref h0), (1, .int v1)]) hx hb dX9_append_39 hl (k := 0) rfl (by decide) (by decide) rfl ?_
    clear hl; intro ls hl
    refine lv_goto (tgt := 12) hx hb dX9_append_42 (by decide) ?_
    refine lv_iload_n hx hb dX9_append_12 rfl (lv_at hl 0 rfl) ?_
    refine lv_if_lt (tgt := 45) hx hb dX9_append_13 (by decide) (fun c_24 => absurd c_24 (by decide)) ?_
    intro _
    refine lv_aload_n hx hb dX9_append_16 rfl (lv_at hl 1 rfl) ?_
    refine va_get (D := (dC, dI)) (ci := 9) (v := .ref p_bytes) (C := RX9) (T := TX9) (N := 6) hx hb htb iX9 hown hK hP 1 rfl rfl 0 (Nat.le_of_ble_eq_true rfl) (htb _ m_236) (fun _ h9 => h9) rfl dX9_append_17 ?_
    refine lv_aload_n hx hb dX9_append_20 rfl (lv_at hl 1 rfl) ?_
    refine va_get (D := (dC, dI)) (ci := 9) (v := .int x_21) (C := RX9) (T := TX9) (N := 6) hx hb htb iX9 hown hK hP 1 rfl rfl 3 (Nat.le_of_ble_eq_true rfl) (htb _ m_239) (fun _ h9 => h9) rfl dX9_append_21 ?_
    refine lv_iload_n hx hb dX9_append_24 rfl (lv_at hl 2 rfl) ?_
    refine lv_iload_n hx hb dX9_append_25 rfl (lv_at hl 0 rfl) ?_
    refine lv_iushr hx hb dX9_append_26 rfl ?_
    refine lv_topi (fun x_25 ex_26 => ?_)
    refine lv_i2b hx hb dX9_append_27 rfl ?_
    refine lv_topi (fun x_27 ex_28 => ?_)
    refine va_bast hx hb hK hP hD hS 0 0 rfl rfl (i_in rfl (lg_X9_append_5 n_ta n_to n_tl x_11 x_21 yq h_2 t_13 t_23)) dX9_append_28 ?_
    clear hP hD hS; intro H locs hP hD hS
    change va_P (dC, dI) vwCl [(p_bytes, .inl (k_bytes, 600, .inl (upd g_19 (Int32.toNatClampNeg x_21) (vp_nar .byte x_27)))), (h0, .inr (9, [.ref p_bytes, .ref p_ts, .ref p_tc, .int x_21, .int n_to, .int n_tl]))] H at hP
    change va_D A [(p_bytes, .inl (k_bytes, 600, .inl (upd g_19 (Int32.toNatClampNeg x_21) (vp_nar .byte x_27)))), (h0, .inr (9, [.ref p_bytes, .ref p_ts, .ref p_tc, .int x_21, .int n_to, .int n_tl]))] at hD
    generalize hG_30 : upd g_19 (Int32.toNatClampNeg x_21) (vp_nar .byte x_27) = g_29 at hP hD
    refine lv_aload_n hx hb dX9_append_29 rfl (lv_at hl 1 rfl) ?_
    refine lv_dup hx hb dX9_append_30 rfl ?_
    refine va_get (D := (dC, dI)) (ci := 9) (v := .int x_21) (C := RX9) (T := TX9) (N := 6) hx hb htb iX9 hown hK hP 1 rfl rfl 3 (Nat.le_of_ble_eq_true rfl) (htb _ m_239) (fun _ h9 => h9) rfl dX9_append_31 ?_
    refine lv_iconst (v := 1) hx hb dX9_append_34 (by decide) ?_
    refine lv_iadd hx hb dX9_append_35 ?_
    refine lv_topi (fun x_31 ex_32 => ?_)
    have t_33 : x_31.toInt = x_21.toInt + (1 : Int) := i_add rfl (by decide) (lg_X9_append_6 n_ta n_to n_tl x_11 x_21 yq h_2 t_13 t_23) ex_32
    refine va_put (D := (dC, dI)) (ci := 9) (v := .int x_31) (C := RX9) (T := TX9) (N := 6) hx hb htb iX9 tyX9 tyX9_ok nmX9 hown hK hP hD hS 1 rfl rfl 3 (Nat.le_of_ble_eq_true rfl) (htb _ m_239) (fun _ h9 => h9) rfl (tyX9_ok 3 (Nat.le_of_ble_eq_true rfl)) rfl rfl (Nat.le_of_ble_eq_true rfl) dX9_append_36 ?_
    clear hP hD hS; intro H locs hP hD hS
    change va_P (dC, dI) vwCl [(p_bytes, .inl (k_bytes, 600, .inl g_29)), (h0, .inr (9, [.ref p_bytes, .ref p_ts, .ref p_tc, .int x_31, .int n_to, .int n_tl]))] H at hP
    change va_D A [(p_bytes, .inl (k_bytes, 600, .inl g_29)), (h0, .inr (9, [.ref p_bytes, .ref p_ts, .ref p_tc, .int x_31, .int n_to, .int n_tl]))] at hD
    refine lv_iinc (v := 0) (lv' := [(2, .int 0), (0, .ref h0), (1, .int v1)]) hx hb dX9_append_39 hl (k := 0) rfl (by decide) (by decide) rfl ?_
    clear hl; intro ls hl
    refine lv_goto (tgt := 12) hx hb dX9_append_42 (by decide) ?_
    refine lv_iload_n hx hb dX9_append_12 rfl (lv_at hl 0 rfl) ?_
    refine lv_if_lt (tgt := 45) hx hb dX9_append_13 (by decide) (fun c_34 => absurd c_34 (by decide)) ?_
    intro _
    refine lv_aload_n hx hb dX9_append_16 rfl (lv_at hl 1 rfl) ?_
    refine va_get (D := (dC, dI)) (ci := 9) (v := .ref p_bytes) (C := RX9) (T := TX9) (N := 6) hx hb htb iX9 hown hK hP 1 rfl rfl 0 (Nat.le_of_ble_eq_true rfl) (htb _ m_236) (fun _ h9 => h9) rfl dX9_append_17 ?_
    refine lv_aload_n hx hb dX9_append_20 rfl (lv_at hl 1 rfl) ?_
    refine va_get (D := (dC, dI)) (ci := 9) (v := .int x_31) (C := RX9) (T := TX9) (N := 6) hx hb htb iX9 hown hK hP 1 rfl rfl 3 (Nat.le_of_ble_eq_true rfl) (htb _ m_239) (fun _ h9 => h9) rfl dX9_append_21 ?_
    refine lv_iload_n hx hb dX9_append_24 rfl (lv_at hl 2 rfl) ?_
    refine lv_iload_n hx hb dX9_append_25 rfl (lv_at hl 0 rfl) ?_
    refine lv_iushr hx hb dX9_append_26 rfl ?_
    refine lv_topi (fun x_35 ex_36 => ?_)
    refine lv_i2b hx hb dX9_append_27 rfl ?_
    refine lv_topi (fun x_37 ex_38 => ?_)
    refine va_bast hx hb hK hP hD hS 0 0 rfl rfl (i_in rfl (lg_X9_append_7 n_ta n_to n_tl x_11 x_21 x_31 yq h_2 t_13 t_23 t_33)) dX9_append_28 ?_
    clear hP hD hS; intro H locs hP hD hS
    change va_P (dC, dI) vwCl [(p_bytes, .inl (k_bytes, 600, .inl (upd g_29 (Int32.toNatClampNeg x_31) (vp_nar .byte x_37)))), (h0, .inr (9, [.ref p_bytes, .ref p_ts, .ref p_tc, .int x_31, .int n_to, .int n_tl]))] H at hP
    change va_D A [(p_bytes, .inl (k_bytes, 600, .inl (upd g_29 (Int32.toNatClampNeg x_31) (vp_nar .byte x_37)))), (h0, .inr (9, [.ref p_bytes, .ref p_ts, .ref p_tc, .int x_31, .int n_to, .int n_tl]))] at hD
    generalize hG_40 : upd g_29 (Int32.toNatClampNeg x_31) (vp_nar .byte x_37) = g_39 at hP hD
    refine lv_aload_n hx hb dX9_append_29 rfl (lv_at hl 1 rfl) ?_
    refine lv_dup hx hb dX9_append_30 rfl ?_
    refine va_get (D := (dC, dI)) (ci := 9) (v := .int x_31) (C := RX9) (T := TX9) (N := 6) hx hb htb iX9 hown hK hP 1 rfl rfl 3 (Nat.le_of_ble_eq_true rfl) (htb _ m_239) (fun _ h9 => h9) rfl dX9_append_31 ?_
    refine lv_iconst (v := 1) hx hb dX9_append_34 (by decide) ?_
    refine lv_iadd hx hb dX9_append_35 ?_
    refine lv_topi (fun x_41 ex_42 => ?_)
    have t_43 : x_41.toInt = x_31.toInt + (1 : Int) := i_add rfl (by decide) (lg_X9_append_8 n_ta n_to n_tl x_11 x_21 x_31 yq h_2 t_13 t_23 t_33) ex_42
    refine va_put (D := (dC, dI)) (ci := 9) (v := .int x_41) (C := RX9) (T := TX9) (N := 6) hx hb htb iX9 tyX9 tyX9_ok nmX9 hown hK hP hD hS 1 rfl rfl 3 (Nat.le_of_ble_eq_true rfl) (htb _ m_239) (fun _ h9 => h9) rfl (tyX9_ok 3 (Nat.le_of_ble_eq_true rfl)) rfl rfl (Nat.le_of_ble_eq_true rfl) dX9_append_36 ?_
    clear hP hD hS; intro H locs hP hD hS
    change va_P (dC, dI) vwCl [(p_bytes, .inl (k_bytes, 600, .inl g_39)), (h0, .inr (9, [.ref p_bytes, .ref p_ts, .ref p_tc, .int x_41, .int n_to, .int n_tl]))] H at hP
    change va_D A [(p_bytes, .inl (k_bytes, 600, .inl g_39)), (h0, .inr (9, [.ref p_bytes, .ref p_ts, .ref p_tc, .int x_41, .int n_to, .int n_tl]))] at hD
    refine lv_iinc (v := (-8)) (lv' := [(2, .int (-8)), (0, .ref h0), (1, .int v1)]) hx hb dX9_append_39 hl (k := 0) rfl (by decide) (by decide) rfl ?_
    clear hl; intro ls hl
    refine lv_goto (tgt := 12) hx hb dX9_append_42 (by decide) ?_
    refine lv_iload_n hx hb dX9_append_12 rfl (lv_at hl 0 rfl) ?_
    refine lv_if_lt (tgt := 45) hx hb dX9_append_13 (by decide) ?_ (fun c_44 => absurd (by decide) c_44)
    intro _
    refine W.widen (k := 0) (n := 0) (Nat.le_of_ble_eq_true rfl) (Nat.le_of_ble_eq_true rfl) ?_
    have hP9 := hP.sub (ws' := [(h0, .inr (9, [.ref p_bytes, .ref p_ts, .ref p_tc, .int x_41, .int n_to, .int n_tl])), (p_bytes, .inl (k_bytes, 600, .inl g_39))]) [1, 0] rfl
    have hD9 := hD.sub (ws' := [(h0, .inr (9, [.ref p_bytes, .ref p_ts, .ref p_tc, .int x_41, .int n_to, .int n_tl])), (p_bytes, .inl (k_bytes, 600, .inl g_39))]) [1, 0] (by decide) rfl
    have hK9 := hK.sub (tys' := []) [] rfl
    exact W.vret hx hb hr (fun t ht hW => ⟨⟨(), rfl, trivial, ⟨x_41, g_39, (lg_X9_append_9 n_ta n_to n_tl x_11 x_21 x_31 x_41 yq h_2 t_13 t_23 t_33 t_43), (Ap_4 hG_10 hG_20 hG_30 hG_40 (lg_X9_append_10 n_ta n_to n_tl x_11 x_21 x_31 x_41 yq h_2 t_13 t_23 t_33 t_43) (byC ex_6 ex_8 (by decide)) (byC ex_16 ex_18 (by decide)) (byC ex_26 ex_28 (by decide)) (byC ex_36 ex_38 (by decide))), by rw [ht]; exact hP9, va_K.moved hW.alike hK9, hD9⟩⟩, hS.F ht⟩) hS.2.2 dX9_append_45
  · refine lv_if_ne (tgt := 9) hx hb dX9_append_5 (by decide) (fun c_45 => absurd (by decide) c_45) ?_
    intro _
    refine W.widen (k := 0) (n := 0) (Nat.le_of_ble_eq_true rfl) (Nat.le_of_ble_eq_true rfl) ?_
    have hP9 := hP.sub (ws' := [(h0, .inr (9, [.ref p_bytes, .ref p_ts, .ref p_tc, .int n_ta, .int n_to, .int n_tl])), (p_bytes, .inl (k_bytes, 600, .inl f_bytes))]) [1, 0] rfl
    have hD9 := hD.sub (ws' := [(h0, .inr (9, [.ref p_bytes, .ref p_ts, .ref p_tc, .int n_ta, .int n_to, .int n_tl])), (p_bytes, .inl (k_bytes, 600, .inl f_bytes))]) [1, 0] (by decide) rfl
    have hK9 := hK.sub (tys' := []) [] rfl
    exact W.vret hx hb hr (fun t ht hW => ⟨⟨(), rfl, trivial, ⟨n_ta, f_bytes, (lg_X9_append_11 n_ta n_to n_tl yq h_2), (Ap_no (lg_X9_append_12 n_ta n_to n_tl yq h_2)), by rw [ht]; exact hP9, va_K.moved hW.alike hK9, hD9⟩⟩, hS.F ht⟩) hS.2.2 dX9_append_8

theorem lg_X9_codeOf_0 (n_ta : Int32) (n_to : Int32) (n_tl : Int32) (f_tc : Nat → Int32) (v1 : Int32) (fb : Nat → Int32) (p0 : Nat) (yq : 0 ≤ n_ta.toInt ∧ n_ta.toInt ≤ 600 ∧ 0 ≤ n_to.toInt ∧ n_to.toInt ≤ 600 ∧ 0 ≤ n_tl.toInt ∧ n_tl.toInt ≤ 600) (t_1 : (0 ≤ v1.toInt ∧ v1.toInt < n_to.toInt ∧ (f_tc (Int32.toNatClampNeg v1)).toInt = cdN fb (Int32.toNatClampNeg n_tl) p0) ∨ (n_to.toInt = v1.toInt ∧ cdN fb (Int32.toNatClampNeg n_tl) p0 = -1)) (t_3 : v1.toInt < (0 : Int)) : (-1 : Int) = cdN fb (Int32.toNatClampNeg n_tl) p0 := by
  have := rg_rng n_ta; have := rg_rng n_to; have := rg_rng n_tl; have := rg_rng v1; omega
theorem lg_X9_codeOf_1 (n_ta : Int32) (n_to : Int32) (n_tl : Int32) (f_tc : Nat → Int32) (v1 : Int32) (fb : Nat → Int32) (p0 : Nat) (yq : 0 ≤ n_ta.toInt ∧ n_ta.toInt ≤ 600 ∧ 0 ≤ n_to.toInt ∧ n_to.toInt ≤ 600 ∧ 0 ≤ n_tl.toInt ∧ n_tl.toInt ≤ 600) (t_1 : (0 ≤ v1.toInt ∧ v1.toInt < n_to.toInt ∧ (f_tc (Int32.toNatClampNeg v1)).toInt = cdN fb (Int32.toNatClampNeg n_tl) p0) ∨ (n_to.toInt = v1.toInt ∧ cdN fb (Int32.toNatClampNeg n_tl) p0 = -1)) (t_3 : (0 : Int) ≤ v1.toInt) (t_5 : n_to.toInt ≤ v1.toInt) : (-1 : Int) = cdN fb (Int32.toNatClampNeg n_tl) p0 := by
  have := rg_rng n_ta; have := rg_rng n_to; have := rg_rng n_tl; have := rg_rng v1; omega
theorem lg_X9_codeOf_2 (n_ta : Int32) (n_to : Int32) (n_tl : Int32) (f_tc : Nat → Int32) (v1 : Int32) (fb : Nat → Int32) (p0 : Nat) (yq : 0 ≤ n_ta.toInt ∧ n_ta.toInt ≤ 600 ∧ 0 ≤ n_to.toInt ∧ n_to.toInt ≤ 600 ∧ 0 ≤ n_tl.toInt ∧ n_tl.toInt ≤ 600) (t_1 : (0 ≤ v1.toInt ∧ v1.toInt < n_to.toInt ∧ (f_tc (Int32.toNatClampNeg v1)).toInt = cdN fb (Int32.toNatClampNeg n_tl) p0) ∨ (n_to.toInt = v1.toInt ∧ cdN fb (Int32.toNatClampNeg n_tl) p0 = -1)) (t_3 : (0 : Int) ≤ v1.toInt) (t_5 : v1.toInt < n_to.toInt) : 0 ≤ v1.toInt ∧ v1.toInt < ((600 : Nat) : Int) := by
  have := rg_rng n_ta; have := rg_rng n_to; have := rg_rng n_tl; have := rg_rng v1; omega
theorem lg_X9_codeOf_3 (n_ta : Int32) (n_to : Int32) (n_tl : Int32) (f_tc : Nat → Int32) (v1 : Int32) (fb : Nat → Int32) (p0 : Nat) (x_6 : Int32) (yq : 0 ≤ n_ta.toInt ∧ n_ta.toInt ≤ 600 ∧ 0 ≤ n_to.toInt ∧ n_to.toInt ≤ 600 ∧ 0 ≤ n_tl.toInt ∧ n_tl.toInt ≤ 600) (t_1 : (0 ≤ v1.toInt ∧ v1.toInt < n_to.toInt ∧ (f_tc (Int32.toNatClampNeg v1)).toInt = cdN fb (Int32.toNatClampNeg n_tl) p0) ∨ (n_to.toInt = v1.toInt ∧ cdN fb (Int32.toNatClampNeg n_tl) p0 = -1)) (t_3 : (0 : Int) ≤ v1.toInt) (t_5 : v1.toInt < n_to.toInt) (t_8 : x_6.toInt = (f_tc (Int32.toNatClampNeg v1)).toInt) : x_6.toInt = cdN fb (Int32.toNatClampNeg n_tl) p0 := by
  have := rg_rng n_ta; have := rg_rng n_to; have := rg_rng n_tl; have := rg_rng v1; have := rg_rng x_6; omega
set_option maxHeartbeats 4000000 in
set_option maxRecDepth 100000 in
theorem kX9_codeOf (l : Launch) (dC : Nat → ClassId) (dI : Nat → Nat → Nat) (sz : Nat) (h0 : Nat) (p_bytes : Nat) (p_ts : Nat) (p_tc : Nat) (n_ta : Int32) (n_to : Int32) (n_tl : Int32) (k_tc : ClassId) (f_tc : Nat → Int32) (v1 : Int32) (fb : Nat → Int32) (p0 : Nat) (yq : 0 ≤ n_ta.toInt ∧ n_ta.toInt ≤ 600 ∧ 0 ≤ n_to.toInt ∧ n_to.toInt ≤ 600 ∧ 0 ≤ n_tl.toInt ∧ n_tl.toInt ≤ 600) (yP : Pr fb f_tc n_tl n_to v1 p0) : Met l yX9_codeOf (Cond.code yX9_codeOf cX9_codeOf 2 (some .int) :: bg) ({ frames := 0, cells := 0, slots := 0, locals := 0 }) (pcW dC dI [.ref h0, .int v1] sz [(h0, .inr (9, [.ref p_bytes, .ref p_ts, .ref p_tc, .int n_ta, .int n_to, .int n_tl])), (p_tc, .inl (k_tc, 600, .inl f_tc))] [(k_tc, .int)]) (va_Qi (fun (r : Int32) (u : Unit) => r.toInt = cdN fb (Int32.toNatClampNeg n_tl) p0) (fun (u : Unit) (t : State) => va_P (dC, dI) vwCl [(h0, .inr (9, [.ref p_bytes, .ref p_ts, .ref p_tc, .int n_ta, .int n_to, .int n_tl])), (p_tc, .inl (k_tc, 600, .inl f_tc))] t.heap ∧ va_K (dC, dI) vwCl [(k_tc, .int)] t ∧ va_D (va_A [(h0, .inr (9, [.ref p_bytes, .ref p_ts, .ref p_tc, .int n_ta, .int n_to, .int n_tl])), (p_tc, .inl (k_tc, 600, .inl f_tc))] sz) [(h0, .inr (9, [.ref p_bytes, .ref p_ts, .ref p_tc, .int n_ta, .int n_to, .int n_tl])), (p_tc, .inl (k_tc, 600, .inl f_tc))]) (va_A [(h0, .inr (9, [.ref p_bytes, .ref p_ts, .ref p_tc, .int n_ta, .int n_to, .int n_tl])), (p_tc, .inl (k_tc, 600, .inl f_tc))] sz)) 0 0 (va_A [(h0, .inr (9, [.ref p_bytes, .ref p_ts, .ref p_tc, .int n_ta, .int n_to, .int n_tl])), (p_tc, .inl (k_tc, 600, .inl f_tc))] sz) := by
  refine Met.ofW (cc := cX9_codeOf) (maxL := 2) (ret := (some .int)) pnX9 rfl ?_
  intro p e s m args below meth c s₁ B hml hv
  obtain ⟨rfl, hsz, hP, hK, hD0, hN⟩ := hv
  have hx := B.exec
  have hb := B.bytes
  have hr := B.returns
  have htb : ∀ w ∈ bg, w.before [.ref h0, .int v1].toArray s = true := fun w h => atoms_spec (ws := Cond.code yX9_codeOf cX9_codeOf 2 (some .int) :: bg) B.pre w (List.mem_cons_of_mem _ h)
  have hown : s.vm.findClass RX9 = some m.cls := findClass_of_methodNamed B.named
  have hlocks := B.notSynchronized
  subst hsz
  have hD := hD0.self (sz := s.heap.size)
  generalize hAe : va_A [(h0, .inr (9, [.ref p_bytes, .ref p_ts, .ref p_tc, .int n_ta, .int n_to, .int n_tl])), (p_tc, .inl (k_tc, 600, .inl f_tc))] s.heap.size = A at hD ⊢
  have hA : ∀ q : Nat, s.heap.size ≤ q → A q := fun q h => by rw [← hAe]; exact Or.inr h
  have hS : va_S A s.heap s.heap [] := va_S.rf
  have hl := lv_entry ([.ref h0, .int v1]) (n := 2) (Nat.le_of_ble_eq_true rfl)
  rw [lg_entry_eq]
  generalize (lg_sl ([.ref h0, .int v1]) ++ List.replicate (2 - (lg_sl ([.ref h0, .int v1])).length) Slot.unset).toArray = ls at hl ⊢
  change lv_has ls 2 [(0, .ref h0), (1, .int v1)] at hl
  clear hD0 hAe
  refine go0 (wsP := fun H => va_P (dC, dI) vwCl [(h0, .inr (9, [.ref p_bytes, .ref p_ts, .ref p_tc, .int n_ta, .int n_to, .int n_tl])), (p_tc, .inl (k_tc, 600, .inl f_tc))] H) hP hS ?_
  clear hP hS; intro H locs hP hS
  change va_P (dC, dI) vwCl [(h0, .inr (9, [.ref p_bytes, .ref p_ts, .ref p_tc, .int n_ta, .int n_to, .int n_tl])), (p_tc, .inl (k_tc, 600, .inl f_tc))] H at hP
  have t_1 : (0 ≤ v1.toInt ∧ v1.toInt < n_to.toInt ∧ (f_tc (Int32.toNatClampNeg v1)).toInt = cdN fb (Int32.toNatClampNeg n_tl) p0) ∨ (n_to.toInt = v1.toInt ∧ cdN fb (Int32.toNatClampNeg n_tl) p0 = -1) := Pr_cd yP
  refine lv_iload_n hx hb dX9_codeOf_0 rfl (lv_at hl 1 rfl) ?_
  refine lv_if_lt (tgt := 21) hx hb dX9_codeOf_1 (by decide) (fun c_2 => ?_) (fun c_2 => ?_)
  · have t_3 : v1.toInt < (0 : Int) := i_lt rfl (by decide) c_2
    refine lv_iconst (v := (-1)) hx hb dX9_codeOf_21 (by decide) ?_
    refine W.widen (k := 0) (n := 0) (Nat.le_of_ble_eq_true rfl) (Nat.le_of_ble_eq_true rfl) ?_
    have hP9 := hP.sub (ws' := [(h0, .inr (9, [.ref p_bytes, .ref p_ts, .ref p_tc, .int n_ta, .int n_to, .int n_tl])), (p_tc, .inl (k_tc, 600, .inl f_tc))]) [0, 1] rfl
    have hD9 := hD.sub (ws' := [(h0, .inr (9, [.ref p_bytes, .ref p_ts, .ref p_tc, .int n_ta, .int n_to, .int n_tl])), (p_tc, .inl (k_tc, 600, .inl f_tc))]) [0, 1] (by decide) rfl
    have hK9 := hK.sub (tys' := [(k_tc, .int)]) [0] rfl
    exact W.iret (v := (-1)) hx hb hr (fun t ht hW => ⟨⟨(-1), (), rfl, (lg_X9_codeOf_0 n_ta n_to n_tl f_tc v1 fb p0 yq t_1 t_3), ⟨by rw [ht]; exact hP9, va_K.moved hW.alike hK9, hD9⟩⟩, hS.F ht⟩) hS.2.2 dX9_codeOf_22
  · have t_3 : (0 : Int) ≤ v1.toInt := i_nlt rfl (by decide) c_2
    refine lv_iload_n hx hb dX9_codeOf_4 rfl (lv_at hl 1 rfl) ?_
    refine lv_aload_n hx hb dX9_codeOf_5 rfl (lv_at hl 0 rfl) ?_
    refine va_get (D := (dC, dI)) (ci := 9) (v := .int n_to) (C := RX9) (T := TX9) (N := 6) hx hb htb iX9 hown hK hP 0 rfl rfl 4 (Nat.le_of_ble_eq_true rfl) (htb _ m_241) (fun _ h9 => h9) rfl dX9_codeOf_6 ?_
    refine lv_icmp_ge (tgt := 21) hx hb dX9_codeOf_9 (by decide) (fun c_4 => ?_) (fun c_4 => ?_)
    · have t_5 : n_to.toInt ≤ v1.toInt := i_le rfl rfl c_4
      refine lv_iconst (v := (-1)) hx hb dX9_codeOf_21 (by decide) ?_
      refine W.widen (k := 0) (n := 0) (Nat.le_of_ble_eq_true rfl) (Nat.le_of_ble_eq_true rfl) ?_
      have hP9 := hP.sub (ws' := [(h0, .inr (9, [.ref p_bytes, .ref p_ts, .ref p_tc, .int n_ta, .int n_to, .int n_tl])), (p_tc, .inl (k_tc, 600, .inl f_tc))]) [0, 1] rfl
      have hD9 := hD.sub (ws' := [(h0, .inr (9, [.ref p_bytes, .ref p_ts, .ref p_tc, .int n_ta, .int n_to, .int n_tl])), (p_tc, .inl (k_tc, 600, .inl f_tc))]) [0, 1] (by decide) rfl
      have hK9 := hK.sub (tys' := [(k_tc, .int)]) [0] rfl
      exact W.iret (v := (-1)) hx hb hr (fun t ht hW => ⟨⟨(-1), (), rfl, (lg_X9_codeOf_1 n_ta n_to n_tl f_tc v1 fb p0 yq t_1 t_3 t_5), ⟨by rw [ht]; exact hP9, va_K.moved hW.alike hK9, hD9⟩⟩, hS.F ht⟩) hS.2.2 dX9_codeOf_22
    · have t_5 : v1.toInt < n_to.toInt := i_nle rfl rfl c_4
      refine lv_aload_n hx hb dX9_codeOf_12 rfl (lv_at hl 0 rfl) ?_
      refine va_get (D := (dC, dI)) (ci := 9) (v := .ref p_tc) (C := RX9) (T := TX9) (N := 6) hx hb htb iX9 hown hK hP 0 rfl rfl 2 (Nat.le_of_ble_eq_true rfl) (htb _ m_238) (fun _ h9 => h9) rfl dX9_codeOf_13 ?_
      refine lv_iload_n hx hb dX9_codeOf_16 rfl (lv_at hl 1 rfl) ?_
      refine va_iald hx hb hK hP 1 0 rfl rfl (i_in rfl (lg_X9_codeOf_2 n_ta n_to n_tl f_tc v1 fb p0 yq t_1 t_3 t_5)) dX9_codeOf_17 ?_
      refine lv_topi (fun x_6 ex_7 => ?_)
      have t_8 : x_6.toInt = (f_tc (Int32.toNatClampNeg v1)).toInt := by rw [ex_7]
      refine lv_goto (tgt := 22) hx hb dX9_codeOf_18 (by decide) ?_
      refine W.widen (k := 0) (n := 0) (Nat.le_of_ble_eq_true rfl) (Nat.le_of_ble_eq_true rfl) ?_
      have hP9 := hP.sub (ws' := [(h0, .inr (9, [.ref p_bytes, .ref p_ts, .ref p_tc, .int n_ta, .int n_to, .int n_tl])), (p_tc, .inl (k_tc, 600, .inl f_tc))]) [0, 1] rfl
      have hD9 := hD.sub (ws' := [(h0, .inr (9, [.ref p_bytes, .ref p_ts, .ref p_tc, .int n_ta, .int n_to, .int n_tl])), (p_tc, .inl (k_tc, 600, .inl f_tc))]) [0, 1] (by decide) rfl
      have hK9 := hK.sub (tys' := [(k_tc, .int)]) [0] rfl
      exact W.iret (v := x_6) hx hb hr (fun t ht hW => ⟨⟨x_6, (), rfl, (lg_X9_codeOf_3 n_ta n_to n_tl f_tc v1 fb p0 x_6 yq t_1 t_3 t_5 t_8), ⟨by rw [ht]; exact hP9, va_K.moved hW.alike hK9, hD9⟩⟩, hS.F ht⟩) hS.2.2 dX9_codeOf_22

theorem lg_X9_placeOf_0 (n_ta : Int32) (n_to : Int32) (n_tl : Int32) (f_ts : Nat → Int32) (v1 : Int32) (p0 : Nat) (yq : 0 ≤ n_ta.toInt ∧ n_ta.toInt ≤ 600 ∧ 0 ≤ n_to.toInt ∧ n_to.toInt ≤ 600 ∧ 0 ≤ n_tl.toInt ∧ n_tl.toInt ≤ 600) (t_1 : (0 ≤ v1.toInt ∧ v1.toInt < n_to.toInt ∧ (f_ts (Int32.toNatClampNeg v1)).toInt = (p0 : Int)) ∨ (n_to.toInt = v1.toInt ∧ (p0 : Int) = n_tl.toInt)) (h_3 : 0 ≤ v1.toInt ∧ v1.toInt < n_to.toInt) : 0 ≤ v1.toInt ∧ v1.toInt < ((600 : Nat) : Int) := by
  have := rg_rng n_ta; have := rg_rng n_to; have := rg_rng n_tl; have := rg_rng v1; omega
theorem lg_X9_placeOf_1 (n_ta : Int32) (n_to : Int32) (n_tl : Int32) (f_ts : Nat → Int32) (v1 : Int32) (p0 : Nat) (x_5 : Int32) (yq : 0 ≤ n_ta.toInt ∧ n_ta.toInt ≤ 600 ∧ 0 ≤ n_to.toInt ∧ n_to.toInt ≤ 600 ∧ 0 ≤ n_tl.toInt ∧ n_tl.toInt ≤ 600) (t_1 : (0 ≤ v1.toInt ∧ v1.toInt < n_to.toInt ∧ (f_ts (Int32.toNatClampNeg v1)).toInt = (p0 : Int)) ∨ (n_to.toInt = v1.toInt ∧ (p0 : Int) = n_tl.toInt)) (h_3 : 0 ≤ v1.toInt ∧ v1.toInt < n_to.toInt) (t_7 : x_5.toInt = (f_ts (Int32.toNatClampNeg v1)).toInt) : x_5.toInt = (p0 : Int) := by
  have := rg_rng n_ta; have := rg_rng n_to; have := rg_rng n_tl; have := rg_rng v1; have := rg_rng x_5; omega
theorem lg_X9_placeOf_2 (n_ta : Int32) (n_to : Int32) (n_tl : Int32) (f_ts : Nat → Int32) (v1 : Int32) (p0 : Nat) (yq : 0 ≤ n_ta.toInt ∧ n_ta.toInt ≤ 600 ∧ 0 ≤ n_to.toInt ∧ n_to.toInt ≤ 600 ∧ 0 ≤ n_tl.toInt ∧ n_tl.toInt ≤ 600) (t_1 : (0 ≤ v1.toInt ∧ v1.toInt < n_to.toInt ∧ (f_ts (Int32.toNatClampNeg v1)).toInt = (p0 : Int)) ∨ (n_to.toInt = v1.toInt ∧ (p0 : Int) = n_tl.toInt)) (h_3 : ¬ (0 ≤ v1.toInt ∧ v1.toInt < n_to.toInt)) : n_tl.toInt = (p0 : Int) := by
  have := rg_rng n_ta; have := rg_rng n_to; have := rg_rng n_tl; have := rg_rng v1; omega
set_option maxHeartbeats 4000000 in
set_option maxRecDepth 100000 in
theorem kX9_placeOf (l : Launch) (dC : Nat → ClassId) (dI : Nat → Nat → Nat) (sz : Nat) (h0 : Nat) (p_bytes : Nat) (p_ts : Nat) (p_tc : Nat) (n_ta : Int32) (n_to : Int32) (n_tl : Int32) (k_ts : ClassId) (f_ts : Nat → Int32) (v1 : Int32) (fb : Nat → Int32) (p0 : Nat) (f_tc : Nat → Int32) (yq : 0 ≤ n_ta.toInt ∧ n_ta.toInt ≤ 600 ∧ 0 ≤ n_to.toInt ∧ n_to.toInt ≤ 600 ∧ 0 ≤ n_tl.toInt ∧ n_tl.toInt ≤ 600) (yP : Pr fb f_tc n_tl n_to v1 p0) (yS : Ps fb f_ts n_tl) : Met l yX9_placeOf (Cond.code yX9_placeOf cX9_placeOf 2 (some .int) :: bg) ({ frames := 1, cells := 0, slots := 0, locals := 21 }) (pcW dC dI [.ref h0, .int v1] sz [(h0, .inr (9, [.ref p_bytes, .ref p_ts, .ref p_tc, .int n_ta, .int n_to, .int n_tl])), (p_ts, .inl (k_ts, 600, .inl f_ts))] [(k_ts, .int)]) (va_Qi (fun (r : Int32) (u : Unit) => r.toInt = (p0 : Int)) (fun (u : Unit) (t : State) => va_P (dC, dI) vwCl [(h0, .inr (9, [.ref p_bytes, .ref p_ts, .ref p_tc, .int n_ta, .int n_to, .int n_tl])), (p_ts, .inl (k_ts, 600, .inl f_ts))] t.heap ∧ va_K (dC, dI) vwCl [(k_ts, .int)] t ∧ va_D (va_A [(h0, .inr (9, [.ref p_bytes, .ref p_ts, .ref p_tc, .int n_ta, .int n_to, .int n_tl])), (p_ts, .inl (k_ts, 600, .inl f_ts))] sz) [(h0, .inr (9, [.ref p_bytes, .ref p_ts, .ref p_tc, .int n_ta, .int n_to, .int n_tl])), (p_ts, .inl (k_ts, 600, .inl f_ts))]) (va_A [(h0, .inr (9, [.ref p_bytes, .ref p_ts, .ref p_tc, .int n_ta, .int n_to, .int n_tl])), (p_ts, .inl (k_ts, 600, .inl f_ts))] sz)) 0 0 (va_A [(h0, .inr (9, [.ref p_bytes, .ref p_ts, .ref p_tc, .int n_ta, .int n_to, .int n_tl])), (p_ts, .inl (k_ts, 600, .inl f_ts))] sz) := by
  refine Met.ofW (cc := cX9_placeOf) (maxL := 2) (ret := (some .int)) pnX9 rfl ?_
  intro p e s m args below meth c s₁ B hml hv
  obtain ⟨rfl, hsz, hP, hK, hD0, hN⟩ := hv
  have hx := B.exec
  have hb := B.bytes
  have hr := B.returns
  have htb : ∀ w ∈ bg, w.before [.ref h0, .int v1].toArray s = true := fun w h => atoms_spec (ws := Cond.code yX9_placeOf cX9_placeOf 2 (some .int) :: bg) B.pre w (List.mem_cons_of_mem _ h)
  have hown : s.vm.findClass RX9 = some m.cls := findClass_of_methodNamed B.named
  have hlocks := B.notSynchronized
  subst hsz
  have hD := hD0.self (sz := s.heap.size)
  generalize hAe : va_A [(h0, .inr (9, [.ref p_bytes, .ref p_ts, .ref p_tc, .int n_ta, .int n_to, .int n_tl])), (p_ts, .inl (k_ts, 600, .inl f_ts))] s.heap.size = A at hD ⊢
  have hA : ∀ q : Nat, s.heap.size ≤ q → A q := fun q h => by rw [← hAe]; exact Or.inr h
  have hS : va_S A s.heap s.heap [] := va_S.rf
  have hl := lv_entry ([.ref h0, .int v1]) (n := 2) (Nat.le_of_ble_eq_true rfl)
  rw [lg_entry_eq]
  generalize (lg_sl ([.ref h0, .int v1]) ++ List.replicate (2 - (lg_sl ([.ref h0, .int v1])).length) Slot.unset).toArray = ls at hl ⊢
  change lv_has ls 2 [(0, .ref h0), (1, .int v1)] at hl
  clear hD0 hAe
  refine go0 (wsP := fun H => va_P (dC, dI) vwCl [(h0, .inr (9, [.ref p_bytes, .ref p_ts, .ref p_tc, .int n_ta, .int n_to, .int n_tl])), (p_ts, .inl (k_ts, 600, .inl f_ts))] H) hP hS ?_
  clear hP hS; intro H locs hP hS
  change va_P (dC, dI) vwCl [(h0, .inr (9, [.ref p_bytes, .ref p_ts, .ref p_tc, .int n_ta, .int n_to, .int n_tl])), (p_ts, .inl (k_ts, 600, .inl f_ts))] H at hP
  have t_1 : (0 ≤ v1.toInt ∧ v1.toInt < n_to.toInt ∧ (f_ts (Int32.toNatClampNeg v1)).toInt = (p0 : Int)) ∨ (n_to.toInt = v1.toInt ∧ (p0 : Int) = n_tl.toInt) := Ps_cd yP yS
  refine lv_aload_n hx hb dX9_placeOf_0 rfl (lv_at hl 0 rfl) ?_
  refine lv_iload_n hx hb dX9_placeOf_1 rfl (lv_at hl 1 rfl) ?_
  have hPc := hP.sub (ws' := [(h0, .inr (9, [.ref p_bytes, .ref p_ts, .ref p_tc, .int n_ta, .int n_to, .int n_tl]))]) [0] rfl
  have hDc := hD.sub (ws' := [(h0, .inr (9, [.ref p_bytes, .ref p_ts, .ref p_tc, .int n_ta, .int n_to, .int n_tl]))]) [0] (by decide) rfl
  have hKc := hK.sub (tys' := []) [] rfl
  have hFc := va_free (wc := [(h0, .inr (9, [.ref p_bytes, .ref p_ts, .ref p_tc, .int n_ta, .int n_to, .int n_tl]))]) hD hS hA [0] rfl
  refine va_calli (va_runV (C := RX9) (As := [.int v1]) (rest := []) ⟨hx, hb, hml, hown, htb⟩ (kX9_hasToken l dC dI H.size h0 p_bytes p_ts p_tc n_ta n_to n_tl v1 ) ⟨callB_of 1 htb (gd_c m_914) rfl rfl rfl (htb _ m_10) (htb _ m_968) hdX9_hasToken ⟨(Nat.le_of_ble_eq_true rfl), (Nat.le_of_ble_eq_true rfl)⟩, htb _ m_912, htb _ m_913⟩ ⟨pcW_blind, va_recv hKc hPc (ci := 9) (q0 := 0) rfl rfl, pcW_at hPc hKc hDc hN⟩ rfl rfl hl.1 rfl (lv_room (Nat.le_of_ble_eq_true rfl)) dX9_placeOf_2 ⟨(Nat.le_of_ble_eq_true rfl), (Nat.le_of_ble_eq_true rfl)⟩) hS (fun q _ h => hFc q h) hFc (fun r_2 u t H1 locs1 ht hvm h_3 hB hz1 hk1 hS1 => ?_)
  obtain ⟨hP1, hK1, hD1⟩ := hB
  rw [ht] at hP1
  obtain ⟨hPn, hDn⟩ := va_join (wr := [(p_ts, .inl (k_ts, 600, .inl f_ts))]) (w1 := [(h0, .inr (9, [.ref p_bytes, .ref p_ts, .ref p_tc, .int n_ta, .int n_to, .int n_tl]))]) hP hD [0] [1] rfl rfl (by decide) (by decide) hk1 hFc hP1 hD1
  clear hP1 hD1 hK1
  clear hP hD hS hPc hDc hKc hFc hk1 hz1 ht hvm
  clear t
  revert hS1 hPn hDn; generalize H1 = H; generalize locs1 = locs; intro hS hP hD
  change va_P (dC, dI) vwCl [(p_ts, .inl (k_ts, 600, .inl f_ts)), (h0, .inr (9, [.ref p_bytes, .ref p_ts, .ref p_tc, .int n_ta, .int n_to, .int n_tl]))] H at hP
  change va_D A [(p_ts, .inl (k_ts, 600, .inl f_ts)), (h0, .inr (9, [.ref p_bytes, .ref p_ts, .ref p_tc, .int n_ta, .int n_to, .int n_tl]))] at hD
  rcases h_3 with ⟨rfl, h_3⟩ | ⟨rfl, h_3⟩
  · refine lv_if_eq (tgt := 17) hx hb dX9_placeOf_5 (by decide) (fun c_4 => absurd c_4 (by decide)) ?_
    intro _
    refine lv_aload_n hx hb dX9_placeOf_8 rfl (lv_at hl 0 rfl) ?_
    refine va_get (D := (dC, dI)) (ci := 9) (v := .ref p_ts) (C := RX9) (T := TX9) (N := 6) hx hb htb iX9 hown hK hP 1 rfl rfl 1 (Nat.le_of_ble_eq_true rfl) (htb _ m_237) (fun _ h9 => h9) rfl dX9_placeOf_9 ?_
    refine lv_iload_n hx hb dX9_placeOf_12 rfl (lv_at hl 1 rfl) ?_
    refine va_iald hx hb hK hP 0 0 rfl rfl (i_in rfl (lg_X9_placeOf_0 n_ta n_to n_tl f_ts v1 p0 yq t_1 h_3)) dX9_placeOf_13 ?_
    refine lv_topi (fun x_5 ex_6 => ?_)
    have t_7 : x_5.toInt = (f_ts (Int32.toNatClampNeg v1)).toInt := by rw [ex_6]
    refine lv_goto (tgt := 21) hx hb dX9_placeOf_14 (by decide) ?_
    refine W.widen (k := 0) (n := 0) (Nat.le_of_ble_eq_true rfl) (Nat.le_of_ble_eq_true rfl) ?_
    have hP9 := hP.sub (ws' := [(h0, .inr (9, [.ref p_bytes, .ref p_ts, .ref p_tc, .int n_ta, .int n_to, .int n_tl])), (p_ts, .inl (k_ts, 600, .inl f_ts))]) [1, 0] rfl
    have hD9 := hD.sub (ws' := [(h0, .inr (9, [.ref p_bytes, .ref p_ts, .ref p_tc, .int n_ta, .int n_to, .int n_tl])), (p_ts, .inl (k_ts, 600, .inl f_ts))]) [1, 0] (by decide) rfl
    have hK9 := hK.sub (tys' := [(k_ts, .int)]) [0] rfl
    exact W.iret (v := x_5) hx hb hr (fun t ht hW => ⟨⟨x_5, (), rfl, (lg_X9_placeOf_1 n_ta n_to n_tl f_ts v1 p0 x_5 yq t_1 h_3 t_7), ⟨by rw [ht]; exact hP9, va_K.moved hW.alike hK9, hD9⟩⟩, hS.F ht⟩) hS.2.2 dX9_placeOf_21
  · refine lv_if_eq (tgt := 17) hx hb dX9_placeOf_5 (by decide) ?_ (fun c_8 => absurd (by decide) c_8)
    intro _
    refine lv_aload_n hx hb dX9_placeOf_17 rfl (lv_at hl 0 rfl) ?_
    refine va_get (D := (dC, dI)) (ci := 9) (v := .int n_tl) (C := RX9) (T := TX9) (N := 6) hx hb htb iX9 hown hK hP 1 rfl rfl 5 (Nat.le_of_ble_eq_true rfl) (htb _ m_242) (fun _ h9 => h9) rfl dX9_placeOf_18 ?_
    refine W.widen (k := 0) (n := 0) (Nat.le_of_ble_eq_true rfl) (Nat.le_of_ble_eq_true rfl) ?_
    have hP9 := hP.sub (ws' := [(h0, .inr (9, [.ref p_bytes, .ref p_ts, .ref p_tc, .int n_ta, .int n_to, .int n_tl])), (p_ts, .inl (k_ts, 600, .inl f_ts))]) [1, 0] rfl
    have hD9 := hD.sub (ws' := [(h0, .inr (9, [.ref p_bytes, .ref p_ts, .ref p_tc, .int n_ta, .int n_to, .int n_tl])), (p_ts, .inl (k_ts, 600, .inl f_ts))]) [1, 0] (by decide) rfl
    have hK9 := hK.sub (tys' := [(k_ts, .int)]) [0] rfl
    exact W.iret (v := n_tl) hx hb hr (fun t ht hW => ⟨⟨n_tl, (), rfl, (lg_X9_placeOf_2 n_ta n_to n_tl f_ts v1 p0 yq t_1 h_3), ⟨by rw [ht]; exact hP9, va_K.moved hW.alike hK9, hD9⟩⟩, hS.F ht⟩) hS.2.2 dX9_placeOf_21

theorem lg_X9_kindAt_0 (n_ta : Int32) (n_to : Int32) (n_tl : Int32) (v1 : Int32) (yq : 0 ≤ n_ta.toInt ∧ n_ta.toInt ≤ 600 ∧ 0 ≤ n_to.toInt ∧ n_to.toInt ≤ 600 ∧ 0 ≤ n_tl.toInt ∧ n_tl.toInt ≤ 600) (yv : 0 ≤ v1.toInt) (t_2 : v1.toInt < (0 : Int)) : 0 ≤ n_tl.toInt ∧ n_tl.toInt ≤ v1.toInt := by
  have := rg_rng n_ta; have := rg_rng n_to; have := rg_rng n_tl; have := rg_rng v1; omega
theorem lg_X9_kindAt_1 (n_ta : Int32) (n_to : Int32) (n_tl : Int32) (f_bytes : Nat → Int32) (v1 : Int32) (yq : 0 ≤ n_ta.toInt ∧ n_ta.toInt ≤ 600 ∧ 0 ≤ n_to.toInt ∧ n_to.toInt ≤ 600 ∧ 0 ≤ n_tl.toInt ∧ n_tl.toInt ≤ 600) (yv : 0 ≤ v1.toInt) (t_2 : v1.toInt < (0 : Int)) (t_3 : kdN f_bytes (Int32.toNatClampNeg n_tl) (Int32.toNatClampNeg v1) = 3) : (3 : Int) = kdN f_bytes (Int32.toNatClampNeg n_tl) (Int32.toNatClampNeg v1) ∧ 0 ≤ (3 : Int) ∧ (3 : Int) ≤ 3 := by
  have := rg_rng n_ta; have := rg_rng n_to; have := rg_rng n_tl; have := rg_rng v1; omega
theorem lg_X9_kindAt_2 (n_ta : Int32) (n_to : Int32) (n_tl : Int32) (v1 : Int32) (yq : 0 ≤ n_ta.toInt ∧ n_ta.toInt ≤ 600 ∧ 0 ≤ n_to.toInt ∧ n_to.toInt ≤ 600 ∧ 0 ≤ n_tl.toInt ∧ n_tl.toInt ≤ 600) (yv : 0 ≤ v1.toInt) (t_2 : (0 : Int) ≤ v1.toInt) (t_6 : n_tl.toInt ≤ v1.toInt) : 0 ≤ n_tl.toInt ∧ n_tl.toInt ≤ v1.toInt := by
  have := rg_rng n_ta; have := rg_rng n_to; have := rg_rng n_tl; have := rg_rng v1; omega
theorem lg_X9_kindAt_3 (n_ta : Int32) (n_to : Int32) (n_tl : Int32) (f_bytes : Nat → Int32) (v1 : Int32) (yq : 0 ≤ n_ta.toInt ∧ n_ta.toInt ≤ 600 ∧ 0 ≤ n_to.toInt ∧ n_to.toInt ≤ 600 ∧ 0 ≤ n_tl.toInt ∧ n_tl.toInt ≤ 600) (yv : 0 ≤ v1.toInt) (t_2 : (0 : Int) ≤ v1.toInt) (t_6 : n_tl.toInt ≤ v1.toInt) (t_7 : kdN f_bytes (Int32.toNatClampNeg n_tl) (Int32.toNatClampNeg v1) = 3) : (3 : Int) = kdN f_bytes (Int32.toNatClampNeg n_tl) (Int32.toNatClampNeg v1) ∧ 0 ≤ (3 : Int) ∧ (3 : Int) ≤ 3 := by
  have := rg_rng n_ta; have := rg_rng n_to; have := rg_rng n_tl; have := rg_rng v1; omega
theorem lg_X9_kindAt_4 (n_ta : Int32) (n_to : Int32) (n_tl : Int32) (v1 : Int32) (yq : 0 ≤ n_ta.toInt ∧ n_ta.toInt ≤ 600 ∧ 0 ≤ n_to.toInt ∧ n_to.toInt ≤ 600 ∧ 0 ≤ n_tl.toInt ∧ n_tl.toInt ≤ 600) (yv : 0 ≤ v1.toInt) (t_2 : (0 : Int) ≤ v1.toInt) (t_6 : v1.toInt < n_tl.toInt) : 0 ≤ v1.toInt ∧ v1.toInt < n_tl.toInt := by
  have := rg_rng n_ta; have := rg_rng n_to; have := rg_rng n_tl; have := rg_rng v1; omega
theorem lg_X9_kindAt_5 (n_ta : Int32) (n_to : Int32) (n_tl : Int32) (f_bytes : Nat → Int32) (v1 : Int32) (yq : 0 ≤ n_ta.toInt ∧ n_ta.toInt ≤ 600 ∧ 0 ≤ n_to.toInt ∧ n_to.toInt ≤ 600 ∧ 0 ≤ n_tl.toInt ∧ n_tl.toInt ≤ 600) (yv : 0 ≤ v1.toInt) (t_2 : (0 : Int) ≤ v1.toInt) (t_6 : v1.toInt < n_tl.toInt) (t_9 : kdN f_bytes (Int32.toNatClampNeg n_tl) (Int32.toNatClampNeg v1) = chK (f_bytes (Int32.toNatClampNeg v1)).toInt) (t_10 : ((chK (f_bytes (Int32.toNatClampNeg v1)).toInt) = 3 ∧ ((f_bytes (Int32.toNatClampNeg v1)).toInt = 32 ∨ (f_bytes (Int32.toNatClampNeg v1)).toInt = 10)) ∨ ((chK (f_bytes (Int32.toNatClampNeg v1)).toInt) = 0 ∧ 97 ≤ (f_bytes (Int32.toNatClampNeg v1)).toInt ∧ (f_bytes (Int32.toNatClampNeg v1)).toInt ≤ 122) ∨ ((chK (f_bytes (Int32.toNatClampNeg v1)).toInt) = 1 ∧ 48 ≤ (f_bytes (Int32.toNatClampNeg v1)).toInt ∧ (f_bytes (Int32.toNatClampNeg v1)).toInt ≤ 57) ∨ ((chK (f_bytes (Int32.toNatClampNeg v1)).toInt) = 2 ∧ ¬ (f_bytes (Int32.toNatClampNeg v1)).toInt = 32 ∧ ¬ (f_bytes (Int32.toNatClampNeg v1)).toInt = 10 ∧ ¬ (97 ≤ (f_bytes (Int32.toNatClampNeg v1)).toInt ∧ (f_bytes (Int32.toNatClampNeg v1)).toInt ≤ 122) ∧ ¬ (48 ≤ (f_bytes (Int32.toNatClampNeg v1)).toInt ∧ (f_bytes (Int32.toNatClampNeg v1)).toInt ≤ 57))) : 0 ≤ v1.toInt ∧ v1.toInt < ((600 : Nat) : Int) := by
  have := rg_rng n_ta; have := rg_rng n_to; have := rg_rng n_tl; have := rg_rng v1; omega
theorem lg_X9_kindAt_6 (n_ta : Int32) (n_to : Int32) (n_tl : Int32) (f_bytes : Nat → Int32) (v1 : Int32) (x_11 : Int32) (yq : 0 ≤ n_ta.toInt ∧ n_ta.toInt ≤ 600 ∧ 0 ≤ n_to.toInt ∧ n_to.toInt ≤ 600 ∧ 0 ≤ n_tl.toInt ∧ n_tl.toInt ≤ 600) (yv : 0 ≤ v1.toInt) (t_2 : (0 : Int) ≤ v1.toInt) (t_6 : v1.toInt < n_tl.toInt) (t_9 : kdN f_bytes (Int32.toNatClampNeg n_tl) (Int32.toNatClampNeg v1) = chK (f_bytes (Int32.toNatClampNeg v1)).toInt) (t_10 : ((chK (f_bytes (Int32.toNatClampNeg v1)).toInt) = 3 ∧ ((f_bytes (Int32.toNatClampNeg v1)).toInt = 32 ∨ (f_bytes (Int32.toNatClampNeg v1)).toInt = 10)) ∨ ((chK (f_bytes (Int32.toNatClampNeg v1)).toInt) = 0 ∧ 97 ≤ (f_bytes (Int32.toNatClampNeg v1)).toInt ∧ (f_bytes (Int32.toNatClampNeg v1)).toInt ≤ 122) ∨ ((chK (f_bytes (Int32.toNatClampNeg v1)).toInt) = 1 ∧ 48 ≤ (f_bytes (Int32.toNatClampNeg v1)).toInt ∧ (f_bytes (Int32.toNatClampNeg v1)).toInt ≤ 57) ∨ ((chK (f_bytes (Int32.toNatClampNeg v1)).toInt) = 2 ∧ ¬ (f_bytes (Int32.toNatClampNeg v1)).toInt = 32 ∧ ¬ (f_bytes (Int32.toNatClampNeg v1)).toInt = 10 ∧ ¬ (97 ≤ (f_bytes (Int32.toNatClampNeg v1)).toInt ∧ (f_bytes (Int32.toNatClampNeg v1)).toInt ≤ 122) ∧ ¬ (48 ≤ (f_bytes (Int32.toNatClampNeg v1)).toInt ∧ (f_bytes (Int32.toNatClampNeg v1)).toInt ≤ 57))) (t_13 : x_11.toInt = (f_bytes (Int32.toNatClampNeg v1)).toInt) (t_15 : x_11.toInt = (32 : Int)) : (3 : Int) = kdN f_bytes (Int32.toNatClampNeg n_tl) (Int32.toNatClampNeg v1) ∧ 0 ≤ (3 : Int) ∧ (3 : Int) ≤ 3 := by
  have := rg_rng n_ta; have := rg_rng n_to; have := rg_rng n_tl; have := rg_rng v1; have := rg_rng x_11; omega
theorem lg_X9_kindAt_7 (n_ta : Int32) (n_to : Int32) (n_tl : Int32) (f_bytes : Nat → Int32) (v1 : Int32) (x_11 : Int32) (yq : 0 ≤ n_ta.toInt ∧ n_ta.toInt ≤ 600 ∧ 0 ≤ n_to.toInt ∧ n_to.toInt ≤ 600 ∧ 0 ≤ n_tl.toInt ∧ n_tl.toInt ≤ 600) (yv : 0 ≤ v1.toInt) (t_2 : (0 : Int) ≤ v1.toInt) (t_6 : v1.toInt < n_tl.toInt) (t_9 : kdN f_bytes (Int32.toNatClampNeg n_tl) (Int32.toNatClampNeg v1) = chK (f_bytes (Int32.toNatClampNeg v1)).toInt) (t_10 : ((chK (f_bytes (Int32.toNatClampNeg v1)).toInt) = 3 ∧ ((f_bytes (Int32.toNatClampNeg v1)).toInt = 32 ∨ (f_bytes (Int32.toNatClampNeg v1)).toInt = 10)) ∨ ((chK (f_bytes (Int32.toNatClampNeg v1)).toInt) = 0 ∧ 97 ≤ (f_bytes (Int32.toNatClampNeg v1)).toInt ∧ (f_bytes (Int32.toNatClampNeg v1)).toInt ≤ 122) ∨ ((chK (f_bytes (Int32.toNatClampNeg v1)).toInt) = 1 ∧ 48 ≤ (f_bytes (Int32.toNatClampNeg v1)).toInt ∧ (f_bytes (Int32.toNatClampNeg v1)).toInt ≤ 57) ∨ ((chK (f_bytes (Int32.toNatClampNeg v1)).toInt) = 2 ∧ ¬ (f_bytes (Int32.toNatClampNeg v1)).toInt = 32 ∧ ¬ (f_bytes (Int32.toNatClampNeg v1)).toInt = 10 ∧ ¬ (97 ≤ (f_bytes (Int32.toNatClampNeg v1)).toInt ∧ (f_bytes (Int32.toNatClampNeg v1)).toInt ≤ 122) ∧ ¬ (48 ≤ (f_bytes (Int32.toNatClampNeg v1)).toInt ∧ (f_bytes (Int32.toNatClampNeg v1)).toInt ≤ 57))) (t_13 : x_11.toInt = (f_bytes (Int32.toNatClampNeg v1)).toInt) (t_15 : ¬ x_11.toInt = (32 : Int)) (t_17 : ¬ x_11.toInt = (10 : Int)) (t_19 : x_11.toInt < (97 : Int)) (t_21 : x_11.toInt < (48 : Int)) : (2 : Int) = kdN f_bytes (Int32.toNatClampNeg n_tl) (Int32.toNatClampNeg v1) ∧ 0 ≤ (2 : Int) ∧ (2 : Int) ≤ 3 := by
  have := rg_rng n_ta; have := rg_rng n_to; have := rg_rng n_tl; have := rg_rng v1; have := rg_rng x_11; omega
theorem lg_X9_kindAt_8 (n_ta : Int32) (n_to : Int32) (n_tl : Int32) (f_bytes : Nat → Int32) (v1 : Int32) (x_11 : Int32) (yq : 0 ≤ n_ta.toInt ∧ n_ta.toInt ≤ 600 ∧ 0 ≤ n_to.toInt ∧ n_to.toInt ≤ 600 ∧ 0 ≤ n_tl.toInt ∧ n_tl.toInt ≤ 600) (yv : 0 ≤ v1.toInt) (t_2 : (0 : Int) ≤ v1.toInt) (t_6 : v1.toInt < n_tl.toInt) (t_9 : kdN f_bytes (Int32.toNatClampNeg n_tl) (Int32.toNatClampNeg v1) = chK (f_bytes (Int32.toNatClampNeg v1)).toInt) (t_10 : ((chK (f_bytes (Int32.toNatClampNeg v1)).toInt) = 3 ∧ ((f_bytes (Int32.toNatClampNeg v1)).toInt = 32 ∨ (f_bytes (Int32.toNatClampNeg v1)).toInt = 10)) ∨ ((chK (f_bytes (Int32.toNatClampNeg v1)).toInt) = 0 ∧ 97 ≤ (f_bytes (Int32.toNatClampNeg v1)).toInt ∧ (f_bytes (Int32.toNatClampNeg v1)).toInt ≤ 122) ∨ ((chK (f_bytes (Int32.toNatClampNeg v1)).toInt) = 1 ∧ 48 ≤ (f_bytes (Int32.toNatClampNeg v1)).toInt ∧ (f_bytes (Int32.toNatClampNeg v1)).toInt ≤ 57) ∨ ((chK (f_bytes (Int32.toNatClampNeg v1)).toInt) = 2 ∧ ¬ (f_bytes (Int32.toNatClampNeg v1)).toInt = 32 ∧ ¬ (f_bytes (Int32.toNatClampNeg v1)).toInt = 10 ∧ ¬ (97 ≤ (f_bytes (Int32.toNatClampNeg v1)).toInt ∧ (f_bytes (Int32.toNatClampNeg v1)).toInt ≤ 122) ∧ ¬ (48 ≤ (f_bytes (Int32.toNatClampNeg v1)).toInt ∧ (f_bytes (Int32.toNatClampNeg v1)).toInt ≤ 57))) (t_13 : x_11.toInt = (f_bytes (Int32.toNatClampNeg v1)).toInt) (t_15 : ¬ x_11.toInt = (32 : Int)) (t_17 : ¬ x_11.toInt = (10 : Int)) (t_19 : x_11.toInt < (97 : Int)) (t_21 : (48 : Int) ≤ x_11.toInt) (t_23 : (57 : Int) < x_11.toInt) : (2 : Int) = kdN f_bytes (Int32.toNatClampNeg n_tl) (Int32.toNatClampNeg v1) ∧ 0 ≤ (2 : Int) ∧ (2 : Int) ≤ 3 := by
  have := rg_rng n_ta; have := rg_rng n_to; have := rg_rng n_tl; have := rg_rng v1; have := rg_rng x_11; omega
theorem lg_X9_kindAt_9 (n_ta : Int32) (n_to : Int32) (n_tl : Int32) (f_bytes : Nat → Int32) (v1 : Int32) (x_11 : Int32) (yq : 0 ≤ n_ta.toInt ∧ n_ta.toInt ≤ 600 ∧ 0 ≤ n_to.toInt ∧ n_to.toInt ≤ 600 ∧ 0 ≤ n_tl.toInt ∧ n_tl.toInt ≤ 600) (yv : 0 ≤ v1.toInt) (t_2 : (0 : Int) ≤ v1.toInt) (t_6 : v1.toInt < n_tl.toInt) (t_9 : kdN f_bytes (Int32.toNatClampNeg n_tl) (Int32.toNatClampNeg v1) = chK (f_bytes (Int32.toNatClampNeg v1)).toInt) (t_10 : ((chK (f_bytes (Int32.toNatClampNeg v1)).toInt) = 3 ∧ ((f_bytes (Int32.toNatClampNeg v1)).toInt = 32 ∨ (f_bytes (Int32.toNatClampNeg v1)).toInt = 10)) ∨ ((chK (f_bytes (Int32.toNatClampNeg v1)).toInt) = 0 ∧ 97 ≤ (f_bytes (Int32.toNatClampNeg v1)).toInt ∧ (f_bytes (Int32.toNatClampNeg v1)).toInt ≤ 122) ∨ ((chK (f_bytes (Int32.toNatClampNeg v1)).toInt) = 1 ∧ 48 ≤ (f_bytes (Int32.toNatClampNeg v1)).toInt ∧ (f_bytes (Int32.toNatClampNeg v1)).toInt ≤ 57) ∨ ((chK (f_bytes (Int32.toNatClampNeg v1)).toInt) = 2 ∧ ¬ (f_bytes (Int32.toNatClampNeg v1)).toInt = 32 ∧ ¬ (f_bytes (Int32.toNatClampNeg v1)).toInt = 10 ∧ ¬ (97 ≤ (f_bytes (Int32.toNatClampNeg v1)).toInt ∧ (f_bytes (Int32.toNatClampNeg v1)).toInt ≤ 122) ∧ ¬ (48 ≤ (f_bytes (Int32.toNatClampNeg v1)).toInt ∧ (f_bytes (Int32.toNatClampNeg v1)).toInt ≤ 57))) (t_13 : x_11.toInt = (f_bytes (Int32.toNatClampNeg v1)).toInt) (t_15 : ¬ x_11.toInt = (32 : Int)) (t_17 : ¬ x_11.toInt = (10 : Int)) (t_19 : x_11.toInt < (97 : Int)) (t_21 : (48 : Int) ≤ x_11.toInt) (t_23 : x_11.toInt ≤ (57 : Int)) : (1 : Int) = kdN f_bytes (Int32.toNatClampNeg n_tl) (Int32.toNatClampNeg v1) ∧ 0 ≤ (1 : Int) ∧ (1 : Int) ≤ 3 := by
  have := rg_rng n_ta; have := rg_rng n_to; have := rg_rng n_tl; have := rg_rng v1; have := rg_rng x_11; omega
theorem lg_X9_kindAt_10 (n_ta : Int32) (n_to : Int32) (n_tl : Int32) (f_bytes : Nat → Int32) (v1 : Int32) (x_11 : Int32) (yq : 0 ≤ n_ta.toInt ∧ n_ta.toInt ≤ 600 ∧ 0 ≤ n_to.toInt ∧ n_to.toInt ≤ 600 ∧ 0 ≤ n_tl.toInt ∧ n_tl.toInt ≤ 600) (yv : 0 ≤ v1.toInt) (t_2 : (0 : Int) ≤ v1.toInt) (t_6 : v1.toInt < n_tl.toInt) (t_9 : kdN f_bytes (Int32.toNatClampNeg n_tl) (Int32.toNatClampNeg v1) = chK (f_bytes (Int32.toNatClampNeg v1)).toInt) (t_10 : ((chK (f_bytes (Int32.toNatClampNeg v1)).toInt) = 3 ∧ ((f_bytes (Int32.toNatClampNeg v1)).toInt = 32 ∨ (f_bytes (Int32.toNatClampNeg v1)).toInt = 10)) ∨ ((chK (f_bytes (Int32.toNatClampNeg v1)).toInt) = 0 ∧ 97 ≤ (f_bytes (Int32.toNatClampNeg v1)).toInt ∧ (f_bytes (Int32.toNatClampNeg v1)).toInt ≤ 122) ∨ ((chK (f_bytes (Int32.toNatClampNeg v1)).toInt) = 1 ∧ 48 ≤ (f_bytes (Int32.toNatClampNeg v1)).toInt ∧ (f_bytes (Int32.toNatClampNeg v1)).toInt ≤ 57) ∨ ((chK (f_bytes (Int32.toNatClampNeg v1)).toInt) = 2 ∧ ¬ (f_bytes (Int32.toNatClampNeg v1)).toInt = 32 ∧ ¬ (f_bytes (Int32.toNatClampNeg v1)).toInt = 10 ∧ ¬ (97 ≤ (f_bytes (Int32.toNatClampNeg v1)).toInt ∧ (f_bytes (Int32.toNatClampNeg v1)).toInt ≤ 122) ∧ ¬ (48 ≤ (f_bytes (Int32.toNatClampNeg v1)).toInt ∧ (f_bytes (Int32.toNatClampNeg v1)).toInt ≤ 57))) (t_13 : x_11.toInt = (f_bytes (Int32.toNatClampNeg v1)).toInt) (t_15 : ¬ x_11.toInt = (32 : Int)) (t_17 : ¬ x_11.toInt = (10 : Int)) (t_19 : (97 : Int) ≤ x_11.toInt) (t_25 : (122 : Int) < x_11.toInt) (t_27 : x_11.toInt < (48 : Int)) : (2 : Int) = kdN f_bytes (Int32.toNatClampNeg n_tl) (Int32.toNatClampNeg v1) ∧ 0 ≤ (2 : Int) ∧ (2 : Int) ≤ 3 := by
  have := rg_rng n_ta; have := rg_rng n_to; have := rg_rng n_tl; have := rg_rng v1; have := rg_rng x_11; omega
theorem lg_X9_kindAt_11 (n_ta : Int32) (n_to : Int32) (n_tl : Int32) (f_bytes : Nat → Int32) (v1 : Int32) (x_11 : Int32) (yq : 0 ≤ n_ta.toInt ∧ n_ta.toInt ≤ 600 ∧ 0 ≤ n_to.toInt ∧ n_to.toInt ≤ 600 ∧ 0 ≤ n_tl.toInt ∧ n_tl.toInt ≤ 600) (yv : 0 ≤ v1.toInt) (t_2 : (0 : Int) ≤ v1.toInt) (t_6 : v1.toInt < n_tl.toInt) (t_9 : kdN f_bytes (Int32.toNatClampNeg n_tl) (Int32.toNatClampNeg v1) = chK (f_bytes (Int32.toNatClampNeg v1)).toInt) (t_10 : ((chK (f_bytes (Int32.toNatClampNeg v1)).toInt) = 3 ∧ ((f_bytes (Int32.toNatClampNeg v1)).toInt = 32 ∨ (f_bytes (Int32.toNatClampNeg v1)).toInt = 10)) ∨ ((chK (f_bytes (Int32.toNatClampNeg v1)).toInt) = 0 ∧ 97 ≤ (f_bytes (Int32.toNatClampNeg v1)).toInt ∧ (f_bytes (Int32.toNatClampNeg v1)).toInt ≤ 122) ∨ ((chK (f_bytes (Int32.toNatClampNeg v1)).toInt) = 1 ∧ 48 ≤ (f_bytes (Int32.toNatClampNeg v1)).toInt ∧ (f_bytes (Int32.toNatClampNeg v1)).toInt ≤ 57) ∨ ((chK (f_bytes (Int32.toNatClampNeg v1)).toInt) = 2 ∧ ¬ (f_bytes (Int32.toNatClampNeg v1)).toInt = 32 ∧ ¬ (f_bytes (Int32.toNatClampNeg v1)).toInt = 10 ∧ ¬ (97 ≤ (f_bytes (Int32.toNatClampNeg v1)).toInt ∧ (f_bytes (Int32.toNatClampNeg v1)).toInt ≤ 122) ∧ ¬ (48 ≤ (f_bytes (Int32.toNatClampNeg v1)).toInt ∧ (f_bytes (Int32.toNatClampNeg v1)).toInt ≤ 57))) (t_13 : x_11.toInt = (f_bytes (Int32.toNatClampNeg v1)).toInt) (t_15 : ¬ x_11.toInt = (32 : Int)) (t_17 : ¬ x_11.toInt = (10 : Int)) (t_19 : (97 : Int) ≤ x_11.toInt) (t_25 : (122 : Int) < x_11.toInt) (t_27 : (48 : Int) ≤ x_11.toInt) (t_29 : (57 : Int) < x_11.toInt) : (2 : Int) = kdN f_bytes (Int32.toNatClampNeg n_tl) (Int32.toNatClampNeg v1) ∧ 0 ≤ (2 : Int) ∧ (2 : Int) ≤ 3 := by
  have := rg_rng n_ta; have := rg_rng n_to; have := rg_rng n_tl; have := rg_rng v1; have := rg_rng x_11; omega
theorem lg_X9_kindAt_12 (n_ta : Int32) (n_to : Int32) (n_tl : Int32) (f_bytes : Nat → Int32) (v1 : Int32) (x_11 : Int32) (yq : 0 ≤ n_ta.toInt ∧ n_ta.toInt ≤ 600 ∧ 0 ≤ n_to.toInt ∧ n_to.toInt ≤ 600 ∧ 0 ≤ n_tl.toInt ∧ n_tl.toInt ≤ 600) (yv : 0 ≤ v1.toInt) (t_2 : (0 : Int) ≤ v1.toInt) (t_6 : v1.toInt < n_tl.toInt) (t_9 : kdN f_bytes (Int32.toNatClampNeg n_tl) (Int32.toNatClampNeg v1) = chK (f_bytes (Int32.toNatClampNeg v1)).toInt) (t_10 : ((chK (f_bytes (Int32.toNatClampNeg v1)).toInt) = 3 ∧ ((f_bytes (Int32.toNatClampNeg v1)).toInt = 32 ∨ (f_bytes (Int32.toNatClampNeg v1)).toInt = 10)) ∨ ((chK (f_bytes (Int32.toNatClampNeg v1)).toInt) = 0 ∧ 97 ≤ (f_bytes (Int32.toNatClampNeg v1)).toInt ∧ (f_bytes (Int32.toNatClampNeg v1)).toInt ≤ 122) ∨ ((chK (f_bytes (Int32.toNatClampNeg v1)).toInt) = 1 ∧ 48 ≤ (f_bytes (Int32.toNatClampNeg v1)).toInt ∧ (f_bytes (Int32.toNatClampNeg v1)).toInt ≤ 57) ∨ ((chK (f_bytes (Int32.toNatClampNeg v1)).toInt) = 2 ∧ ¬ (f_bytes (Int32.toNatClampNeg v1)).toInt = 32 ∧ ¬ (f_bytes (Int32.toNatClampNeg v1)).toInt = 10 ∧ ¬ (97 ≤ (f_bytes (Int32.toNatClampNeg v1)).toInt ∧ (f_bytes (Int32.toNatClampNeg v1)).toInt ≤ 122) ∧ ¬ (48 ≤ (f_bytes (Int32.toNatClampNeg v1)).toInt ∧ (f_bytes (Int32.toNatClampNeg v1)).toInt ≤ 57))) (t_13 : x_11.toInt = (f_bytes (Int32.toNatClampNeg v1)).toInt) (t_15 : ¬ x_11.toInt = (32 : Int)) (t_17 : ¬ x_11.toInt = (10 : Int)) (t_19 : (97 : Int) ≤ x_11.toInt) (t_25 : (122 : Int) < x_11.toInt) (t_27 : (48 : Int) ≤ x_11.toInt) (t_29 : x_11.toInt ≤ (57 : Int)) : (1 : Int) = kdN f_bytes (Int32.toNatClampNeg n_tl) (Int32.toNatClampNeg v1) ∧ 0 ≤ (1 : Int) ∧ (1 : Int) ≤ 3 := by
  have := rg_rng n_ta; have := rg_rng n_to; have := rg_rng n_tl; have := rg_rng v1; have := rg_rng x_11; omega
theorem lg_X9_kindAt_13 (n_ta : Int32) (n_to : Int32) (n_tl : Int32) (f_bytes : Nat → Int32) (v1 : Int32) (x_11 : Int32) (yq : 0 ≤ n_ta.toInt ∧ n_ta.toInt ≤ 600 ∧ 0 ≤ n_to.toInt ∧ n_to.toInt ≤ 600 ∧ 0 ≤ n_tl.toInt ∧ n_tl.toInt ≤ 600) (yv : 0 ≤ v1.toInt) (t_2 : (0 : Int) ≤ v1.toInt) (t_6 : v1.toInt < n_tl.toInt) (t_9 : kdN f_bytes (Int32.toNatClampNeg n_tl) (Int32.toNatClampNeg v1) = chK (f_bytes (Int32.toNatClampNeg v1)).toInt) (t_10 : ((chK (f_bytes (Int32.toNatClampNeg v1)).toInt) = 3 ∧ ((f_bytes (Int32.toNatClampNeg v1)).toInt = 32 ∨ (f_bytes (Int32.toNatClampNeg v1)).toInt = 10)) ∨ ((chK (f_bytes (Int32.toNatClampNeg v1)).toInt) = 0 ∧ 97 ≤ (f_bytes (Int32.toNatClampNeg v1)).toInt ∧ (f_bytes (Int32.toNatClampNeg v1)).toInt ≤ 122) ∨ ((chK (f_bytes (Int32.toNatClampNeg v1)).toInt) = 1 ∧ 48 ≤ (f_bytes (Int32.toNatClampNeg v1)).toInt ∧ (f_bytes (Int32.toNatClampNeg v1)).toInt ≤ 57) ∨ ((chK (f_bytes (Int32.toNatClampNeg v1)).toInt) = 2 ∧ ¬ (f_bytes (Int32.toNatClampNeg v1)).toInt = 32 ∧ ¬ (f_bytes (Int32.toNatClampNeg v1)).toInt = 10 ∧ ¬ (97 ≤ (f_bytes (Int32.toNatClampNeg v1)).toInt ∧ (f_bytes (Int32.toNatClampNeg v1)).toInt ≤ 122) ∧ ¬ (48 ≤ (f_bytes (Int32.toNatClampNeg v1)).toInt ∧ (f_bytes (Int32.toNatClampNeg v1)).toInt ≤ 57))) (t_13 : x_11.toInt = (f_bytes (Int32.toNatClampNeg v1)).toInt) (t_15 : ¬ x_11.toInt = (32 : Int)) (t_17 : ¬ x_11.toInt = (10 : Int)) (t_19 : (97 : Int) ≤ x_11.toInt) (t_25 : x_11.toInt ≤ (122 : Int)) : (0 : Int) = kdN f_bytes (Int32.toNatClampNeg n_tl) (Int32.toNatClampNeg v1) ∧ 0 ≤ (0 : Int) ∧ (0 : Int) ≤ 3 := by
  have := rg_rng n_ta; have := rg_rng n_to; have := rg_rng n_tl; have := rg_rng v1; have := rg_rng x_11; omega
theorem lg_X9_kindAt_14 (n_ta : Int32) (n_to : Int32) (n_tl : Int32) (f_bytes : Nat → Int32) (v1 : Int32) (x_11 : Int32) (yq : 0 ≤ n_ta.toInt ∧ n_ta.toInt ≤ 600 ∧ 0 ≤ n_to.toInt ∧ n_to.toInt ≤ 600 ∧ 0 ≤ n_tl.toInt ∧ n_tl.toInt ≤ 600) (yv : 0 ≤ v1.toInt) (t_2 : (0 : Int) ≤ v1.toInt) (t_6 : v1.toInt < n_tl.toInt) (t_9 : kdN f_bytes (Int32.toNatClampNeg n_tl) (Int32.toNatClampNeg v1) = chK (f_bytes (Int32.toNatClampNeg v1)).toInt) (t_10 : ((chK (f_bytes (Int32.toNatClampNeg v1)).toInt) = 3 ∧ ((f_bytes (Int32.toNatClampNeg v1)).toInt = 32 ∨ (f_bytes (Int32.toNatClampNeg v1)).toInt = 10)) ∨ ((chK (f_bytes (Int32.toNatClampNeg v1)).toInt) = 0 ∧ 97 ≤ (f_bytes (Int32.toNatClampNeg v1)).toInt ∧ (f_bytes (Int32.toNatClampNeg v1)).toInt ≤ 122) ∨ ((chK (f_bytes (Int32.toNatClampNeg v1)).toInt) = 1 ∧ 48 ≤ (f_bytes (Int32.toNatClampNeg v1)).toInt ∧ (f_bytes (Int32.toNatClampNeg v1)).toInt ≤ 57) ∨ ((chK (f_bytes (Int32.toNatClampNeg v1)).toInt) = 2 ∧ ¬ (f_bytes (Int32.toNatClampNeg v1)).toInt = 32 ∧ ¬ (f_bytes (Int32.toNatClampNeg v1)).toInt = 10 ∧ ¬ (97 ≤ (f_bytes (Int32.toNatClampNeg v1)).toInt ∧ (f_bytes (Int32.toNatClampNeg v1)).toInt ≤ 122) ∧ ¬ (48 ≤ (f_bytes (Int32.toNatClampNeg v1)).toInt ∧ (f_bytes (Int32.toNatClampNeg v1)).toInt ≤ 57))) (t_13 : x_11.toInt = (f_bytes (Int32.toNatClampNeg v1)).toInt) (t_15 : ¬ x_11.toInt = (32 : Int)) (t_17 : x_11.toInt = (10 : Int)) : (3 : Int) = kdN f_bytes (Int32.toNatClampNeg n_tl) (Int32.toNatClampNeg v1) ∧ 0 ≤ (3 : Int) ∧ (3 : Int) ≤ 3 := by
  have := rg_rng n_ta; have := rg_rng n_to; have := rg_rng n_tl; have := rg_rng v1; have := rg_rng x_11; omega
set_option maxHeartbeats 4000000 in
set_option maxRecDepth 100000 in
theorem kX9_kindAt (l : Launch) (dC : Nat → ClassId) (dI : Nat → Nat → Nat) (sz : Nat) (h0 : Nat) (p_bytes : Nat) (p_ts : Nat) (p_tc : Nat) (n_ta : Int32) (n_to : Int32) (n_tl : Int32) (k_bytes : ClassId) (f_bytes : Nat → Int32) (v1 : Int32) (yq : 0 ≤ n_ta.toInt ∧ n_ta.toInt ≤ 600 ∧ 0 ≤ n_to.toInt ∧ n_to.toInt ≤ 600 ∧ 0 ≤ n_tl.toInt ∧ n_tl.toInt ≤ 600) (yv : 0 ≤ v1.toInt) : Met l yX9_kindAt (Cond.code yX9_kindAt cX9_kindAt 3 (some .int) :: bg) ({ frames := 0, cells := 0, slots := 0, locals := 0 }) (pcW dC dI [.ref h0, .int v1] sz [(h0, .inr (9, [.ref p_bytes, .ref p_ts, .ref p_tc, .int n_ta, .int n_to, .int n_tl])), (p_bytes, .inl (k_bytes, 600, .inl f_bytes))] [(k_bytes, .byte)]) (va_Qi (fun (r : Int32) (u : Unit) => r.toInt = kdN f_bytes (Int32.toNatClampNeg n_tl) (Int32.toNatClampNeg v1) ∧ 0 ≤ r.toInt ∧ r.toInt ≤ 3) (fun (u : Unit) (t : State) => va_P (dC, dI) vwCl [(h0, .inr (9, [.ref p_bytes, .ref p_ts, .ref p_tc, .int n_ta, .int n_to, .int n_tl])), (p_bytes, .inl (k_bytes, 600, .inl f_bytes))] t.heap ∧ va_K (dC, dI) vwCl [(k_bytes, .byte)] t ∧ va_D (va_A [(h0, .inr (9, [.ref p_bytes, .ref p_ts, .ref p_tc, .int n_ta, .int n_to, .int n_tl])), (p_bytes, .inl (k_bytes, 600, .inl f_bytes))] sz) [(h0, .inr (9, [.ref p_bytes, .ref p_ts, .ref p_tc, .int n_ta, .int n_to, .int n_tl])), (p_bytes, .inl (k_bytes, 600, .inl f_bytes))]) (va_A [(h0, .inr (9, [.ref p_bytes, .ref p_ts, .ref p_tc, .int n_ta, .int n_to, .int n_tl])), (p_bytes, .inl (k_bytes, 600, .inl f_bytes))] sz)) 0 0 (va_A [(h0, .inr (9, [.ref p_bytes, .ref p_ts, .ref p_tc, .int n_ta, .int n_to, .int n_tl])), (p_bytes, .inl (k_bytes, 600, .inl f_bytes))] sz) := by
  refine Met.ofW (cc := cX9_kindAt) (maxL := 3) (ret := (some .int)) pnX9 rfl ?_
  intro p e s m args below meth c s₁ B hml hv
  obtain ⟨rfl, hsz, hP, hK, hD0, hN⟩ := hv
  have hx := B.exec
  have hb := B.bytes
  have hr := B.returns
  have htb : ∀ w ∈ bg, w.before [.ref h0, .int v1].toArray s = true := fun w h => atoms_spec (ws := Cond.code yX9_kindAt cX9_kindAt 3 (some .int) :: bg) B.pre w (List.mem_cons_of_mem _ h)
  have hown : s.vm.findClass RX9 = some m.cls := findClass_of_methodNamed B.named
  have hlocks := B.notSynchronized
  subst hsz
  have hD := hD0.self (sz := s.heap.size)
  generalize hAe : va_A [(h0, .inr (9, [.ref p_bytes, .ref p_ts, .ref p_tc, .int n_ta, .int n_to, .int n_tl])), (p_bytes, .inl (k_bytes, 600, .inl f_bytes))] s.heap.size = A at hD ⊢
  have hA : ∀ q : Nat, s.heap.size ≤ q → A q := fun q h => by rw [← hAe]; exact Or.inr h
  have hS : va_S A s.heap s.heap [] := va_S.rf
  have hl := lv_entry ([.ref h0, .int v1]) (n := 3) (Nat.le_of_ble_eq_true rfl)
  rw [lg_entry_eq]
  generalize (lg_sl ([.ref h0, .int v1]) ++ List.replicate (3 - (lg_sl ([.ref h0, .int v1])).length) Slot.unset).toArray = ls at hl ⊢
  change lv_has ls 3 [(0, .ref h0), (1, .int v1)] at hl
  clear hD0 hAe
  refine go0 (wsP := fun H => va_P (dC, dI) vwCl [(h0, .inr (9, [.ref p_bytes, .ref p_ts, .ref p_tc, .int n_ta, .int n_to, .int n_tl])), (p_bytes, .inl (k_bytes, 600, .inl f_bytes))] H) hP hS ?_
  clear hP hS; intro H locs hP hS
  change va_P (dC, dI) vwCl [(h0, .inr (9, [.ref p_bytes, .ref p_ts, .ref p_tc, .int n_ta, .int n_to, .int n_tl])), (p_bytes, .inl (k_bytes, 600, .inl f_bytes))] H at hP
  refine lv_iload_n hx hb dX9_kindAt_0 rfl (lv_at hl 1 rfl) ?_
  refine lv_if_lt (tgt := 21) hx hb dX9_kindAt_1 (by decide) (fun c_1 => ?_) (fun c_1 => ?_)
  · have t_2 : v1.toInt < (0 : Int) := i_lt rfl (by decide) c_1
    have t_3 : kdN f_bytes (Int32.toNatClampNeg n_tl) (Int32.toNatClampNeg v1) = 3 := kd_outI (lg_X9_kindAt_0 n_ta n_to n_tl v1 yq yv t_2)
    refine lv_bipush (v := 32) hx hb dX9_kindAt_21 (by decide) ?_
    refine lv_istore_n (lv' := [(2, .int 32), (0, .ref h0), (1, .int v1)]) hx hb dX9_kindAt_23 rfl hl (by decide) rfl ?_
    clear hl; intro ls hl
    refine lv_iload_n hx hb dX9_kindAt_24 rfl (lv_at hl 0 rfl) ?_
    refine lv_bipush (v := 32) hx hb dX9_kindAt_25 (by decide) ?_
    refine lv_icmp_eq (tgt := 36) hx hb dX9_kindAt_27 (by decide) ?_ (fun c_4 => absurd (by decide) c_4)
    intro _
    refine lv_iconst (v := 3) hx hb dX9_kindAt_36 (by decide) ?_
    refine W.widen (k := 0) (n := 0) (Nat.le_of_ble_eq_true rfl) (Nat.le_of_ble_eq_true rfl) ?_
    have hP9 := hP.sub (ws' := [(h0, .inr (9, [.ref p_bytes, .ref p_ts, .ref p_tc, .int n_ta, .int n_to, .int n_tl])), (p_bytes, .inl (k_bytes, 600, .inl f_bytes))]) [0, 1] rfl
    have hD9 := hD.sub (ws' := [(h0, .inr (9, [.ref p_bytes, .ref p_ts, .ref p_tc, .int n_ta, .int n_to, .int n_tl])), (p_bytes, .inl (k_bytes, 600, .inl f_bytes))]) [0, 1] (by decide) rfl
    have hK9 := hK.sub (tys' := [(k_bytes, .byte)]) [0] rfl
    exact W.iret (v := 3) hx hb hr (fun t ht hW => ⟨⟨3, (), rfl, (lg_X9_kindAt_1 n_ta n_to n_tl f_bytes v1 yq yv t_2 t_3), ⟨by rw [ht]; exact hP9, va_K.moved hW.alike hK9, hD9⟩⟩, hS.F ht⟩) hS.2.2 dX9_kindAt_37
  · have t_2 : (0 : Int) ≤ v1.toInt := i_nlt rfl (by decide) c_1
    refine lv_iload_n hx hb dX9_kindAt_4 rfl (lv_at hl 1 rfl) ?_
    refine lv_aload_n hx hb dX9_kindAt_5 rfl (lv_at hl 0 rfl) ?_
    refine va_get (D := (dC, dI)) (ci := 9) (v := .int n_tl) (C := RX9) (T := TX9) (N := 6) hx hb htb iX9 hown hK hP 0 rfl rfl 5 (Nat.le_of_ble_eq_true rfl) (htb _ m_242) (fun _ h9 => h9) rfl dX9_kindAt_6 ?_
    refine lv_icmp_ge (tgt := 21) hx hb dX9_kindAt_9 (by decide) (fun c_5 => ?_) (fun c_5 => ?_)
    · have t_6 : n_tl.toInt ≤ v1.toInt := i_le rfl rfl c_5
      have t_7 : kdN f_bytes (Int32.toNatClampNeg n_tl) (Int32.toNatClampNeg v1) = 3 := kd_outI (lg_X9_kindAt_2 n_ta n_to n_tl v1 yq yv t_2 t_6)
      refine lv_bipush (v := 32) hx hb dX9_kindAt_21 (by decide) ?_
      refine lv_istore_n (lv' := [(2, .int 32), (0, .ref h0), (1, .int v1)]) hx hb dX9_kindAt_23 rfl hl (by decide) rfl ?_
      clear hl; intro ls hl
      refine lv_iload_n hx hb dX9_kindAt_24 rfl (lv_at hl 0 rfl) ?_
      refine lv_bipush (v := 32) hx hb dX9_kindAt_25 (by decide) ?_
      refine lv_icmp_eq (tgt := 36) hx hb dX9_kindAt_27 (by decide) ?_ (fun c_8 => absurd (by decide) c_8)
      intro _
      refine lv_iconst (v := 3) hx hb dX9_kindAt_36 (by decide) ?_
      refine W.widen (k := 0) (n := 0) (Nat.le_of_ble_eq_true rfl) (Nat.le_of_ble_eq_true rfl) ?_
      have hP9 := hP.sub (ws' := [(h0, .inr (9, [.ref p_bytes, .ref p_ts, .ref p_tc, .int n_ta, .int n_to, .int n_tl])), (p_bytes, .inl (k_bytes, 600, .inl f_bytes))]) [0, 1] rfl
      have hD9 := hD.sub (ws' := [(h0, .inr (9, [.ref p_bytes, .ref p_ts, .ref p_tc, .int n_ta, .int n_to, .int n_tl])), (p_bytes, .inl (k_bytes, 600, .inl f_bytes))]) [0, 1] (by decide) rfl
      have hK9 := hK.sub (tys' := [(k_bytes, .byte)]) [0] rfl
      exact W.iret (v := 3) hx hb hr (fun t ht hW => ⟨⟨3, (), rfl, (lg_X9_kindAt_3 n_ta n_to n_tl f_bytes v1 yq yv t_2 t_6 t_7), ⟨by rw [ht]; exact hP9, va_K.moved hW.alike hK9, hD9⟩⟩, hS.F ht⟩) hS.2.2 dX9_kindAt_37
    · have t_6 : v1.toInt < n_tl.toInt := i_nle rfl rfl c_5
      have t_9 : kdN f_bytes (Int32.toNatClampNeg n_tl) (Int32.toNatClampNeg v1) = chK (f_bytes (Int32.toNatClampNeg v1)).toInt := kd_inI (lg_X9_kindAt_4 n_ta n_to n_tl v1 yq yv t_2 t_6)
      have t_10 : ((chK (f_bytes (Int32.toNatClampNeg v1)).toInt) = 3 ∧ ((f_bytes (Int32.toNatClampNeg v1)).toInt = 32 ∨ (f_bytes (Int32.toNatClampNeg v1)).toInt = 10)) ∨ ((chK (f_bytes (Int32.toNatClampNeg v1)).toInt) = 0 ∧ 97 ≤ (f_bytes (Int32.toNatClampNeg v1)).toInt ∧ (f_bytes (Int32.toNatClampNeg v1)).toInt ≤ 122) ∨ ((chK (f_bytes (Int32.toNatClampNeg v1)).toInt) = 1 ∧ 48 ≤ (f_bytes (Int32.toNatClampNeg v1)).toInt ∧ (f_bytes (Int32.toNatClampNeg v1)).toInt ≤ 57) ∨ ((chK (f_bytes (Int32.toNatClampNeg v1)).toInt) = 2 ∧ ¬ (f_bytes (Int32.toNatClampNeg v1)).toInt = 32 ∧ ¬ (f_bytes (Int32.toNatClampNeg v1)).toInt = 10 ∧ ¬ (97 ≤ (f_bytes (Int32.toNatClampNeg v1)).toInt ∧ (f_bytes (Int32.toNatClampNeg v1)).toInt ≤ 122) ∧ ¬ (48 ≤ (f_bytes (Int32.toNatClampNeg v1)).toInt ∧ (f_bytes (Int32.toNatClampNeg v1)).toInt ≤ 57)) := ck_all _
      refine lv_aload_n hx hb dX9_kindAt_12 rfl (lv_at hl 0 rfl) ?_
      refine va_get (D := (dC, dI)) (ci := 9) (v := .ref p_bytes) (C := RX9) (T := TX9) (N := 6) hx hb htb iX9 hown hK hP 0 rfl rfl 0 (Nat.le_of_ble_eq_true rfl) (htb _ m_236) (fun _ h9 => h9) rfl dX9_kindAt_13 ?_
      refine lv_iload_n hx hb dX9_kindAt_16 rfl (lv_at hl 1 rfl) ?_
      refine va_bald hx hb hK hP 1 0 rfl rfl (i_in rfl (lg_X9_kindAt_5 n_ta n_to n_tl f_bytes v1 yq yv t_2 t_6 t_9 t_10)) dX9_kindAt_17 ?_
      refine lv_topi (fun x_11 ex_12 => ?_)
      have t_13 : x_11.toInt = (f_bytes (Int32.toNatClampNeg v1)).toInt := by rw [ex_12]
      refine lv_goto (tgt := 23) hx hb dX9_kindAt_18 (by decide) ?_
      refine lv_istore_n (lv' := [(2, .int x_11), (0, .ref h0), (1, .int v1)]) hx hb dX9_kindAt_23 rfl hl (by decide) rfl ?_
      clear hl; intro ls hl
      refine lv_iload_n hx hb dX9_kindAt_24 rfl (lv_at hl 0 rfl) ?_
      refine lv_bipush (v := 32) hx hb dX9_kindAt_25 (by decide) ?_
      refine lv_icmp_eq (tgt := 36) hx hb dX9_kindAt_27 (by decide) (fun c_14 => ?_) (fun c_14 => ?_)
      · have t_15 : x_11.toInt = (32 : Int) := i_eq rfl (by decide) c_14
        refine lv_iconst (v := 3) hx hb dX9_kindAt_36 (by decide) ?_
        refine W.widen (k := 0) (n := 0) (Nat.le_of_ble_eq_true rfl) (Nat.le_of_ble_eq_true rfl) ?_
        have hP9 := hP.sub (ws' := [(h0, .inr (9, [.ref p_bytes, .ref p_ts, .ref p_tc, .int n_ta, .int n_to, .int n_tl])), (p_bytes, .inl (k_bytes, 600, .inl f_bytes))]) [0, 1] rfl
        have hD9 := hD.sub (ws' := [(h0, .inr (9, [.ref p_bytes, .ref p_ts, .ref p_tc, .int n_ta, .int n_to, .int n_tl])), (p_bytes, .inl (k_bytes, 600, .inl f_bytes))]) [0, 1] (by decide) rfl
        have hK9 := hK.sub (tys' := [(k_bytes, .byte)]) [0] rfl
        exact W.iret (v := 3) hx hb hr (fun t ht hW => ⟨⟨3, (), rfl, (lg_X9_kindAt_6 n_ta n_to n_tl f_bytes v1 x_11 yq yv t_2 t_6 t_9 t_10 t_13 t_15), ⟨by rw [ht]; exact hP9, va_K.moved hW.alike hK9, hD9⟩⟩, hS.F ht⟩) hS.2.2 dX9_kindAt_37
      · have t_15 : ¬ x_11.toInt = (32 : Int) := i_ne rfl (by decide) c_14
        refine lv_iload_n hx hb dX9_kindAt_30 rfl (lv_at hl 0 rfl) ?_
        refine lv_bipush (v := 10) hx hb dX9_kindAt_31 (by decide) ?_
        refine lv_icmp_ne (tgt := 38) hx hb dX9_kindAt_33 (by decide) (fun c_16 => ?_) (fun c_16 => ?_)
        · have t_17 : ¬ x_11.toInt = (10 : Int) := i_ne rfl (by decide) c_16
          refine lv_iload_n hx hb dX9_kindAt_38 rfl (lv_at hl 0 rfl) ?_
          refine lv_bipush (v := 97) hx hb dX9_kindAt_39 (by decide) ?_
          refine lv_icmp_lt (tgt := 52) hx hb dX9_kindAt_41 (by decide) (fun c_18 => ?_) (fun c_18 => ?_)
          · have t_19 : x_11.toInt < (97 : Int) := i_lt rfl (by decide) c_18
            refine lv_iload_n hx hb dX9_kindAt_52 rfl (lv_at hl 0 rfl) ?_
            refine lv_bipush (v := 48) hx hb dX9_kindAt_53 (by decide) ?_
            refine lv_icmp_lt (tgt := 68) hx hb dX9_kindAt_55 (by decide) (fun c_20 => ?_) (fun c_20 => ?_)
            · have t_21 : x_11.toInt < (48 : Int) := i_lt rfl (by decide) c_20
              refine lv_iconst (v := 2) hx hb dX9_kindAt_68 (by decide) ?_
              refine W.widen (k := 0) (n := 0) (Nat.le_of_ble_eq_true rfl) (Nat.le_of_ble_eq_true rfl) ?_
              have hP9 := hP.sub (ws' := [(h0, .inr (9, [.ref p_bytes, .ref p_ts, .ref p_tc, .int n_ta, .int n_to, .int n_tl])), (p_bytes, .inl (k_bytes, 600, .inl f_bytes))]) [0, 1] rfl
              have hD9 := hD.sub (ws' := [(h0, .inr (9, [.ref p_bytes, .ref p_ts, .ref p_tc, .int n_ta, .int n_to, .int n_tl])), (p_bytes, .inl (k_bytes, 600, .inl f_bytes))]) [0, 1] (by decide) rfl
              have hK9 := hK.sub (tys' := [(k_bytes, .byte)]) [0] rfl
              exact W.iret (v := 2) hx hb hr (fun t ht hW => ⟨⟨2, (), rfl, (lg_X9_kindAt_7 n_ta n_to n_tl f_bytes v1 x_11 yq yv t_2 t_6 t_9 t_10 t_13 t_15 t_17 t_19 t_21), ⟨by rw [ht]; exact hP9, va_K.moved hW.alike hK9, hD9⟩⟩, hS.F ht⟩) hS.2.2 dX9_kindAt_69
            · have t_21 : (48 : Int) ≤ x_11.toInt := i_nlt rfl (by decide) c_20
              refine lv_iload_n hx hb dX9_kindAt_58 rfl (lv_at hl 0 rfl) ?_
              refine lv_bipush (v := 57) hx hb dX9_kindAt_59 (by decide) ?_
              refine lv_icmp_gt (tgt := 68) hx hb dX9_kindAt_61 (by decide) (fun c_22 => ?_) (fun c_22 => ?_)
              · have t_23 : (57 : Int) < x_11.toInt := i_lt (by decide) rfl c_22
                refine lv_iconst (v := 2) hx hb dX9_kindAt_68 (by decide) ?_
                refine W.widen (k := 0) (n := 0) (Nat.le_of_ble_eq_true rfl) (Nat.le_of_ble_eq_true rfl) ?_
                have hP9 := hP.sub (ws' := [(h0, .inr (9, [.ref p_bytes, .ref p_ts, .ref p_tc, .int n_ta, .int n_to, .int n_tl])), (p_bytes, .inl (k_bytes, 600, .inl f_bytes))]) [0, 1] rfl
                have hD9 := hD.sub (ws' := [(h0, .inr (9, [.ref p_bytes, .ref p_ts, .ref p_tc, .int n_ta, .int n_to, .int n_tl])), (p_bytes, .inl (k_bytes, 600, .inl f_bytes))]) [0, 1] (by decide) rfl
                have hK9 := hK.sub (tys' := [(k_bytes, .byte)]) [0] rfl
                exact W.iret (v := 2) hx hb hr (fun t ht hW => ⟨⟨2, (), rfl, (lg_X9_kindAt_8 n_ta n_to n_tl f_bytes v1 x_11 yq yv t_2 t_6 t_9 t_10 t_13 t_15 t_17 t_19 t_21 t_23), ⟨by rw [ht]; exact hP9, va_K.moved hW.alike hK9, hD9⟩⟩, hS.F ht⟩) hS.2.2 dX9_kindAt_69
              · have t_23 : x_11.toInt ≤ (57 : Int) := i_nlt (by decide) rfl c_22
                refine lv_iconst (v := 1) hx hb dX9_kindAt_64 (by decide) ?_
                refine lv_goto (tgt := 69) hx hb dX9_kindAt_65 (by decide) ?_
                refine W.widen (k := 0) (n := 0) (Nat.le_of_ble_eq_true rfl) (Nat.le_of_ble_eq_true rfl) ?_
                have hP9 := hP.sub (ws' := [(h0, .inr (9, [.ref p_bytes, .ref p_ts, .ref p_tc, .int n_ta, .int n_to, .int n_tl])), (p_bytes, .inl (k_bytes, 600, .inl f_bytes))]) [0, 1] rfl
                have hD9 := hD.sub (ws' := [(h0, .inr (9, [.ref p_bytes, .ref p_ts, .ref p_tc, .int n_ta, .int n_to, .int n_tl])), (p_bytes, .inl (k_bytes, 600, .inl f_bytes))]) [0, 1] (by decide) rfl
                have hK9 := hK.sub (tys' := [(k_bytes, .byte)]) [0] rfl
                exact W.iret (v := 1) hx hb hr (fun t ht hW => ⟨⟨1, (), rfl, (lg_X9_kindAt_9 n_ta n_to n_tl f_bytes v1 x_11 yq yv t_2 t_6 t_9 t_10 t_13 t_15 t_17 t_19 t_21 t_23), ⟨by rw [ht]; exact hP9, va_K.moved hW.alike hK9, hD9⟩⟩, hS.F ht⟩) hS.2.2 dX9_kindAt_69
          · have t_19 : (97 : Int) ≤ x_11.toInt := i_nlt rfl (by decide) c_18
            refine lv_iload_n hx hb dX9_kindAt_44 rfl (lv_at hl 0 rfl) ?_
            refine lv_bipush (v := 122) hx hb dX9_kindAt_45 (by decide) ?_
            refine lv_icmp_gt (tgt := 52) hx hb dX9_kindAt_47 (by decide) (fun c_24 => ?_) (fun c_24 => ?_)
            · have t_25 : (122 : Int) < x_11.toInt := i_lt (by decide) rfl c_24
              refine lv_iload_n hx hb dX9_kindAt_52 rfl (lv_at hl 0 rfl) ?_
              refine lv_bipush (v := 48) hx hb dX9_kindAt_53 (by decide) ?_
              refine lv_icmp_lt (tgt := 68) hx hb dX9_kindAt_55 (by decide) (fun c_26 => ?_) (fun c_26 => ?_)
              · have t_27 : x_11.toInt < (48 : Int) := i_lt rfl (by decide) c_26
                refine lv_iconst (v := 2) hx hb dX9_kindAt_68 (by decide) ?_
                refine W.widen (k := 0) (n := 0) (Nat.le_of_ble_eq_true rfl) (Nat.le_of_ble_eq_true rfl) ?_
                have hP9 := hP.sub (ws' := [(h0, .inr (9, [.ref p_bytes, .ref p_ts, .ref p_tc, .int n_ta, .int n_to, .int n_tl])), (p_bytes, .inl (k_bytes, 600, .inl f_bytes))]) [0, 1] rfl
                have hD9 := hD.sub (ws' := [(h0, .inr (9, [.ref p_bytes, .ref p_ts, .ref p_tc, .int n_ta, .int n_to, .int n_tl])), (p_bytes, .inl (k_bytes, 600, .inl f_bytes))]) [0, 1] (by decide) rfl
                have hK9 := hK.sub (tys' := [(k_bytes, .byte)]) [0] rfl
                exact W.iret (v := 2) hx hb hr (fun t ht hW => ⟨⟨2, (), rfl, (lg_X9_kindAt_10 n_ta n_to n_tl f_bytes v1 x_11 yq yv t_2 t_6 t_9 t_10 t_13 t_15 t_17 t_19 t_25 t_27), ⟨by rw [ht]; exact hP9, va_K.moved hW.alike hK9, hD9⟩⟩, hS.F ht⟩) hS.2.2 dX9_kindAt_69
              · have t_27 : (48 : Int) ≤ x_11.toInt := i_nlt rfl (by decide) c_26
                refine lv_iload_n hx hb dX9_kindAt_58 rfl (lv_at hl 0 rfl) ?_
                refine lv_bipush (v := 57) hx hb dX9_kindAt_59 (by decide) ?_
                refine lv_icmp_gt (tgt := 68) hx hb dX9_kindAt_61 (by decide) (fun c_28 => ?_) (fun c_28 => ?_)
                · have t_29 : (57 : Int) < x_11.toInt := i_lt (by decide) rfl c_28
                  refine lv_iconst (v := 2) hx hb dX9_kindAt_68 (by decide) ?_
                  refine W.widen (k := 0) (n := 0) (Nat.le_of_ble_eq_true rfl) (Nat.le_of_ble_eq_true rfl) ?_
                  have hP9 := hP.sub (ws' := [(h0, .inr (9, [.ref p_bytes, .ref p_ts, .ref p_tc, .int n_ta, .int n_to, .int n_tl])), (p_bytes, .inl (k_bytes, 600, .inl f_bytes))]) [0, 1] rfl
                  have hD9 := hD.sub (ws' := [(h0, .inr (9, [.ref p_bytes, .ref p_ts, .ref p_tc, .int n_ta, .int n_to, .int n_tl])), (p_bytes, .inl (k_bytes, 600, .inl f_bytes))]) [0, 1] (by decide) rfl
                  have hK9 := hK.sub (tys' := [(k_bytes, .byte)]) [0] rfl
                  exact W.iret (v := 2) hx hb hr (fun t ht hW => ⟨⟨2, (), rfl, (lg_X9_kindAt_11 n_ta n_to n_tl f_bytes v1 x_11 yq yv t_2 t_6 t_9 t_10 t_13 t_15 t_17 t_19 t_25 t_27 t_29), ⟨by rw [ht]; exact hP9, va_K.moved hW.alike hK9, hD9⟩⟩, hS.F ht⟩) hS.2.2 dX9_kindAt_69
                · have t_29 : x_11.toInt ≤ (57 : Int) := i_nlt (by decide) rfl c_28
                  refine lv_iconst (v := 1) hx hb dX9_kindAt_64 (by decide) ?_
                  refine lv_goto (tgt := 69) hx hb dX9_kindAt_65 (by decide) ?_
                  refine W.widen (k := 0) (n := 0) (Nat.le_of_ble_eq_true rfl) (Nat.le_of_ble_eq_true rfl) ?_
                  have hP9 := hP.sub (ws' := [(h0, .inr (9, [.ref p_bytes, .ref p_ts, .ref p_tc, .int n_ta, .int n_to, .int n_tl])), (p_bytes, .inl (k_bytes, 600, .inl f_bytes))]) [0, 1] rfl
                  have hD9 := hD.sub (ws' := [(h0, .inr (9, [.ref p_bytes, .ref p_ts, .ref p_tc, .int n_ta, .int n_to, .int n_tl])), (p_bytes, .inl (k_bytes, 600, .inl f_bytes))]) [0, 1] (by decide) rfl
                  have hK9 := hK.sub (tys' := [(k_bytes, .byte)]) [0] rfl
                  exact W.iret (v := 1) hx hb hr (fun t ht hW => ⟨⟨1, (), rfl, (lg_X9_kindAt_12 n_ta n_to n_tl f_bytes v1 x_11 yq yv t_2 t_6 t_9 t_10 t_13 t_15 t_17 t_19 t_25 t_27 t_29), ⟨by rw [ht]; exact hP9, va_K.moved hW.alike hK9, hD9⟩⟩, hS.F ht⟩) hS.2.2 dX9_kindAt_69
            · have t_25 : x_11.toInt ≤ (122 : Int) := i_nlt (by decide) rfl c_24
              refine lv_iconst (v := 0) hx hb dX9_kindAt_50 (by decide) ?_
              refine W.widen (k := 0) (n := 0) (Nat.le_of_ble_eq_true rfl) (Nat.le_of_ble_eq_true rfl) ?_
              have hP9 := hP.sub (ws' := [(h0, .inr (9, [.ref p_bytes, .ref p_ts, .ref p_tc, .int n_ta, .int n_to, .int n_tl])), (p_bytes, .inl (k_bytes, 600, .inl f_bytes))]) [0, 1] rfl
              have hD9 := hD.sub (ws' := [(h0, .inr (9, [.ref p_bytes, .ref p_ts, .ref p_tc, .int n_ta, .int n_to, .int n_tl])), (p_bytes, .inl (k_bytes, 600, .inl f_bytes))]) [0, 1] (by decide) rfl
              have hK9 := hK.sub (tys' := [(k_bytes, .byte)]) [0] rfl
              exact W.iret (v := 0) hx hb hr (fun t ht hW => ⟨⟨0, (), rfl, (lg_X9_kindAt_13 n_ta n_to n_tl f_bytes v1 x_11 yq yv t_2 t_6 t_9 t_10 t_13 t_15 t_17 t_19 t_25), ⟨by rw [ht]; exact hP9, va_K.moved hW.alike hK9, hD9⟩⟩, hS.F ht⟩) hS.2.2 dX9_kindAt_51
        · have t_17 : x_11.toInt = (10 : Int) := i_eq rfl (by decide) c_16
          refine lv_iconst (v := 3) hx hb dX9_kindAt_36 (by decide) ?_
          refine W.widen (k := 0) (n := 0) (Nat.le_of_ble_eq_true rfl) (Nat.le_of_ble_eq_true rfl) ?_
          have hP9 := hP.sub (ws' := [(h0, .inr (9, [.ref p_bytes, .ref p_ts, .ref p_tc, .int n_ta, .int n_to, .int n_tl])), (p_bytes, .inl (k_bytes, 600, .inl f_bytes))]) [0, 1] rfl
          have hD9 := hD.sub (ws' := [(h0, .inr (9, [.ref p_bytes, .ref p_ts, .ref p_tc, .int n_ta, .int n_to, .int n_tl])), (p_bytes, .inl (k_bytes, 600, .inl f_bytes))]) [0, 1] (by decide) rfl
          have hK9 := hK.sub (tys' := [(k_bytes, .byte)]) [0] rfl
          exact W.iret (v := 3) hx hb hr (fun t ht hW => ⟨⟨3, (), rfl, (lg_X9_kindAt_14 n_ta n_to n_tl f_bytes v1 x_11 yq yv t_2 t_6 t_9 t_10 t_13 t_15 t_17), ⟨by rw [ht]; exact hP9, va_K.moved hW.alike hK9, hD9⟩⟩, hS.F ht⟩) hS.2.2 dX9_kindAt_37

theorem lg_X9_beginsToken_0 (n_ta : Int32) (n_to : Int32) (n_tl : Int32) (v1 : Int32) (yq : 0 ≤ n_ta.toInt ∧ n_ta.toInt ≤ 600 ∧ 0 ≤ n_to.toInt ∧ n_to.toInt ≤ 600 ∧ 0 ≤ n_tl.toInt ∧ n_tl.toInt ≤ 600) (yv : 0 ≤ v1.toInt ∧ v1.toInt < n_tl.toInt) : 0 ≤ v1.toInt := by
  have := rg_rng n_ta; have := rg_rng n_to; have := rg_rng n_tl; have := rg_rng v1; omega
theorem lg_X9_beginsToken_1 (n_ta : Int32) (n_to : Int32) (n_tl : Int32) (v1 : Int32) (yq : 0 ≤ n_ta.toInt ∧ n_ta.toInt ≤ 600 ∧ 0 ≤ n_to.toInt ∧ n_to.toInt ≤ 600 ∧ 0 ≤ n_tl.toInt ∧ n_tl.toInt ≤ 600) (yv : 0 ≤ v1.toInt ∧ v1.toInt < n_tl.toInt) (t_1 : (((Int32.toNatClampNeg v1) : Nat) : Int) = v1.toInt) : 0 ≤ v1.toInt := by
  have := rg_rng n_ta; have := rg_rng n_to; have := rg_rng n_tl; have := rg_rng v1; omega
theorem lg_X9_beginsToken_2 (n_ta : Int32) (n_to : Int32) (n_tl : Int32) (f_bytes : Nat → Int32) (v1 : Int32) (r_2 : Int32) (yq : 0 ≤ n_ta.toInt ∧ n_ta.toInt ≤ 600 ∧ 0 ≤ n_to.toInt ∧ n_to.toInt ≤ 600 ∧ 0 ≤ n_tl.toInt ∧ n_tl.toInt ≤ 600) (yv : 0 ≤ v1.toInt ∧ v1.toInt < n_tl.toInt) (t_1 : (((Int32.toNatClampNeg v1) : Nat) : Int) = v1.toInt) (h_3 : r_2.toInt = kdN f_bytes (Int32.toNatClampNeg n_tl) (Int32.toNatClampNeg v1) ∧ 0 ≤ r_2.toInt ∧ r_2.toInt ≤ 3) (t_5 : r_2.toInt = (2 : Int)) : kdN f_bytes (Int32.toNatClampNeg n_tl) (Int32.toNatClampNeg v1) = 2 ∨ (¬ kdN f_bytes (Int32.toNatClampNeg n_tl) (Int32.toNatClampNeg v1) = 3 ∧ ((Int32.toNatClampNeg v1) = 0 ∨ ¬ kdN f_bytes (Int32.toNatClampNeg n_tl) ((Int32.toNatClampNeg v1) - 1) = kdN f_bytes (Int32.toNatClampNeg n_tl) (Int32.toNatClampNeg v1))) := by
  have := rg_rng n_ta; have := rg_rng n_to; have := rg_rng n_tl; have := rg_rng v1; have := rg_rng r_2; omega
theorem lg_X9_beginsToken_3 (n_ta : Int32) (n_to : Int32) (n_tl : Int32) (f_bytes : Nat → Int32) (v1 : Int32) (r_2 : Int32) (yq : 0 ≤ n_ta.toInt ∧ n_ta.toInt ≤ 600 ∧ 0 ≤ n_to.toInt ∧ n_to.toInt ≤ 600 ∧ 0 ≤ n_tl.toInt ∧ n_tl.toInt ≤ 600) (yv : 0 ≤ v1.toInt ∧ v1.toInt < n_tl.toInt) (t_1 : (((Int32.toNatClampNeg v1) : Nat) : Int) = v1.toInt) (h_3 : r_2.toInt = kdN f_bytes (Int32.toNatClampNeg n_tl) (Int32.toNatClampNeg v1) ∧ 0 ≤ r_2.toInt ∧ r_2.toInt ≤ 3) (t_5 : ¬ r_2.toInt = (2 : Int)) (t_7 : r_2.toInt = (3 : Int)) : ¬ (kdN f_bytes (Int32.toNatClampNeg n_tl) (Int32.toNatClampNeg v1) = 2 ∨ (¬ kdN f_bytes (Int32.toNatClampNeg n_tl) (Int32.toNatClampNeg v1) = 3 ∧ ((Int32.toNatClampNeg v1) = 0 ∨ ¬ kdN f_bytes (Int32.toNatClampNeg n_tl) ((Int32.toNatClampNeg v1) - 1) = kdN f_bytes (Int32.toNatClampNeg n_tl) (Int32.toNatClampNeg v1)))) := by
  have := rg_rng n_ta; have := rg_rng n_to; have := rg_rng n_tl; have := rg_rng v1; have := rg_rng r_2; omega
theorem lg_X9_beginsToken_4 (n_ta : Int32) (n_to : Int32) (n_tl : Int32) (f_bytes : Nat → Int32) (v1 : Int32) (r_2 : Int32) (yq : 0 ≤ n_ta.toInt ∧ n_ta.toInt ≤ 600 ∧ 0 ≤ n_to.toInt ∧ n_to.toInt ≤ 600 ∧ 0 ≤ n_tl.toInt ∧ n_tl.toInt ≤ 600) (yv : 0 ≤ v1.toInt ∧ v1.toInt < n_tl.toInt) (t_1 : (((Int32.toNatClampNeg v1) : Nat) : Int) = v1.toInt) (h_3 : r_2.toInt = kdN f_bytes (Int32.toNatClampNeg n_tl) (Int32.toNatClampNeg v1) ∧ 0 ≤ r_2.toInt ∧ r_2.toInt ≤ 3) (t_5 : ¬ r_2.toInt = (2 : Int)) (t_7 : ¬ r_2.toInt = (3 : Int)) (t_9 : v1.toInt = (0 : Int)) : kdN f_bytes (Int32.toNatClampNeg n_tl) (Int32.toNatClampNeg v1) = 2 ∨ (¬ kdN f_bytes (Int32.toNatClampNeg n_tl) (Int32.toNatClampNeg v1) = 3 ∧ ((Int32.toNatClampNeg v1) = 0 ∨ ¬ kdN f_bytes (Int32.toNatClampNeg n_tl) ((Int32.toNatClampNeg v1) - 1) = kdN f_bytes (Int32.toNatClampNeg n_tl) (Int32.toNatClampNeg v1))) := by
  have := rg_rng n_ta; have := rg_rng n_to; have := rg_rng n_tl; have := rg_rng v1; have := rg_rng r_2; omega
theorem lg_X9_beginsToken_5 (n_ta : Int32) (n_to : Int32) (n_tl : Int32) (f_bytes : Nat → Int32) (v1 : Int32) (r_2 : Int32) (yq : 0 ≤ n_ta.toInt ∧ n_ta.toInt ≤ 600 ∧ 0 ≤ n_to.toInt ∧ n_to.toInt ≤ 600 ∧ 0 ≤ n_tl.toInt ∧ n_tl.toInt ≤ 600) (yv : 0 ≤ v1.toInt ∧ v1.toInt < n_tl.toInt) (t_1 : (((Int32.toNatClampNeg v1) : Nat) : Int) = v1.toInt) (h_3 : r_2.toInt = kdN f_bytes (Int32.toNatClampNeg n_tl) (Int32.toNatClampNeg v1) ∧ 0 ≤ r_2.toInt ∧ r_2.toInt ≤ 3) (t_5 : ¬ r_2.toInt = (2 : Int)) (t_7 : ¬ r_2.toInt = (3 : Int)) (t_9 : ¬ v1.toInt = (0 : Int)) : -2147483648 ≤ v1.toInt - (1 : Int) ∧ v1.toInt - (1 : Int) < 2147483648 := by
  have := rg_rng n_ta; have := rg_rng n_to; have := rg_rng n_tl; have := rg_rng v1; have := rg_rng r_2; omega
theorem lg_X9_beginsToken_6 (n_ta : Int32) (n_to : Int32) (n_tl : Int32) (f_bytes : Nat → Int32) (v1 : Int32) (r_2 : Int32) (x_10 : Int32) (yq : 0 ≤ n_ta.toInt ∧ n_ta.toInt ≤ 600 ∧ 0 ≤ n_to.toInt ∧ n_to.toInt ≤ 600 ∧ 0 ≤ n_tl.toInt ∧ n_tl.toInt ≤ 600) (yv : 0 ≤ v1.toInt ∧ v1.toInt < n_tl.toInt) (t_1 : (((Int32.toNatClampNeg v1) : Nat) : Int) = v1.toInt) (h_3 : r_2.toInt = kdN f_bytes (Int32.toNatClampNeg n_tl) (Int32.toNatClampNeg v1) ∧ 0 ≤ r_2.toInt ∧ r_2.toInt ≤ 3) (t_5 : ¬ r_2.toInt = (2 : Int)) (t_7 : ¬ r_2.toInt = (3 : Int)) (t_9 : ¬ v1.toInt = (0 : Int)) (t_12 : x_10.toInt = v1.toInt - (1 : Int)) : 0 ≤ x_10.toInt := by
  have := rg_rng n_ta; have := rg_rng n_to; have := rg_rng n_tl; have := rg_rng v1; have := rg_rng r_2; have := rg_rng x_10; omega
theorem lg_X9_beginsToken_7 (n_ta : Int32) (n_to : Int32) (n_tl : Int32) (f_bytes : Nat → Int32) (v1 : Int32) (r_2 : Int32) (x_10 : Int32) (r_13 : Int32) (yq : 0 ≤ n_ta.toInt ∧ n_ta.toInt ≤ 600 ∧ 0 ≤ n_to.toInt ∧ n_to.toInt ≤ 600 ∧ 0 ≤ n_tl.toInt ∧ n_tl.toInt ≤ 600) (yv : 0 ≤ v1.toInt ∧ v1.toInt < n_tl.toInt) (t_1 : (((Int32.toNatClampNeg v1) : Nat) : Int) = v1.toInt) (h_3 : r_2.toInt = kdN f_bytes (Int32.toNatClampNeg n_tl) (Int32.toNatClampNeg v1) ∧ 0 ≤ r_2.toInt ∧ r_2.toInt ≤ 3) (t_5 : ¬ r_2.toInt = (2 : Int)) (t_7 : ¬ r_2.toInt = (3 : Int)) (t_9 : ¬ v1.toInt = (0 : Int)) (t_12 : x_10.toInt = v1.toInt - (1 : Int)) (h_14 : r_13.toInt = kdN f_bytes (Int32.toNatClampNeg n_tl) (Int32.toNatClampNeg x_10) ∧ 0 ≤ r_13.toInt ∧ r_13.toInt ≤ 3) : 1 ≤ v1.toInt ∧ x_10.toInt = v1.toInt - 1 := by
  have := rg_rng n_ta; have := rg_rng n_to; have := rg_rng n_tl; have := rg_rng v1; have := rg_rng r_2; have := rg_rng x_10; have := rg_rng r_13; omega
theorem lg_X9_beginsToken_8 (n_ta : Int32) (n_to : Int32) (n_tl : Int32) (f_bytes : Nat → Int32) (v1 : Int32) (r_2 : Int32) (x_10 : Int32) (r_13 : Int32) (yq : 0 ≤ n_ta.toInt ∧ n_ta.toInt ≤ 600 ∧ 0 ≤ n_to.toInt ∧ n_to.toInt ≤ 600 ∧ 0 ≤ n_tl.toInt ∧ n_tl.toInt ≤ 600) (yv : 0 ≤ v1.toInt ∧ v1.toInt < n_tl.toInt) (t_1 : (((Int32.toNatClampNeg v1) : Nat) : Int) = v1.toInt) (h_3 : r_2.toInt = kdN f_bytes (Int32.toNatClampNeg n_tl) (Int32.toNatClampNeg v1) ∧ 0 ≤ r_2.toInt ∧ r_2.toInt ≤ 3) (t_5 : ¬ r_2.toInt = (2 : Int)) (t_7 : ¬ r_2.toInt = (3 : Int)) (t_9 : ¬ v1.toInt = (0 : Int)) (t_12 : x_10.toInt = v1.toInt - (1 : Int)) (h_14 : r_13.toInt = kdN f_bytes (Int32.toNatClampNeg n_tl) (Int32.toNatClampNeg x_10) ∧ 0 ≤ r_13.toInt ∧ r_13.toInt ≤ 3) (t_15 : r_13.toInt = kdN f_bytes (Int32.toNatClampNeg n_tl) ((Int32.toNatClampNeg v1) - 1)) (t_17 : r_13.toInt = r_2.toInt) : ¬ (kdN f_bytes (Int32.toNatClampNeg n_tl) (Int32.toNatClampNeg v1) = 2 ∨ (¬ kdN f_bytes (Int32.toNatClampNeg n_tl) (Int32.toNatClampNeg v1) = 3 ∧ ((Int32.toNatClampNeg v1) = 0 ∨ ¬ kdN f_bytes (Int32.toNatClampNeg n_tl) ((Int32.toNatClampNeg v1) - 1) = kdN f_bytes (Int32.toNatClampNeg n_tl) (Int32.toNatClampNeg v1)))) := by
  have := rg_rng n_ta; have := rg_rng n_to; have := rg_rng n_tl; have := rg_rng v1; have := rg_rng r_2; have := rg_rng x_10; have := rg_rng r_13; omega
theorem lg_X9_beginsToken_9 (n_ta : Int32) (n_to : Int32) (n_tl : Int32) (f_bytes : Nat → Int32) (v1 : Int32) (r_2 : Int32) (x_10 : Int32) (r_13 : Int32) (yq : 0 ≤ n_ta.toInt ∧ n_ta.toInt ≤ 600 ∧ 0 ≤ n_to.toInt ∧ n_to.toInt ≤ 600 ∧ 0 ≤ n_tl.toInt ∧ n_tl.toInt ≤ 600) (yv : 0 ≤ v1.toInt ∧ v1.toInt < n_tl.toInt) (t_1 : (((Int32.toNatClampNeg v1) : Nat) : Int) = v1.toInt) (h_3 : r_2.toInt = kdN f_bytes (Int32.toNatClampNeg n_tl) (Int32.toNatClampNeg v1) ∧ 0 ≤ r_2.toInt ∧ r_2.toInt ≤ 3) (t_5 : ¬ r_2.toInt = (2 : Int)) (t_7 : ¬ r_2.toInt = (3 : Int)) (t_9 : ¬ v1.toInt = (0 : Int)) (t_12 : x_10.toInt = v1.toInt - (1 : Int)) (h_14 : r_13.toInt = kdN f_bytes (Int32.toNatClampNeg n_tl) (Int32.toNatClampNeg x_10) ∧ 0 ≤ r_13.toInt ∧ r_13.toInt ≤ 3) (t_15 : r_13.toInt = kdN f_bytes (Int32.toNatClampNeg n_tl) ((Int32.toNatClampNeg v1) - 1)) (t_17 : ¬ r_13.toInt = r_2.toInt) : kdN f_bytes (Int32.toNatClampNeg n_tl) (Int32.toNatClampNeg v1) = 2 ∨ (¬ kdN f_bytes (Int32.toNatClampNeg n_tl) (Int32.toNatClampNeg v1) = 3 ∧ ((Int32.toNatClampNeg v1) = 0 ∨ ¬ kdN f_bytes (Int32.toNatClampNeg n_tl) ((Int32.toNatClampNeg v1) - 1) = kdN f_bytes (Int32.toNatClampNeg n_tl) (Int32.toNatClampNeg v1))) := by
  have := rg_rng n_ta; have := rg_rng n_to; have := rg_rng n_tl; have := rg_rng v1; have := rg_rng r_2; have := rg_rng x_10; have := rg_rng r_13; omega
set_option maxHeartbeats 4000000 in
set_option maxRecDepth 100000 in
theorem kX9_beginsToken (l : Launch) (dC : Nat → ClassId) (dI : Nat → Nat → Nat) (sz : Nat) (h0 : Nat) (p_bytes : Nat) (p_ts : Nat) (p_tc : Nat) (n_ta : Int32) (n_to : Int32) (n_tl : Int32) (k_bytes : ClassId) (f_bytes : Nat → Int32) (v1 : Int32) (yq : 0 ≤ n_ta.toInt ∧ n_ta.toInt ≤ 600 ∧ 0 ≤ n_to.toInt ∧ n_to.toInt ≤ 600 ∧ 0 ≤ n_tl.toInt ∧ n_tl.toInt ≤ 600) (yv : 0 ≤ v1.toInt ∧ v1.toInt < n_tl.toInt) : Met l yX9_beginsToken (Cond.code yX9_beginsToken cX9_beginsToken 3 (some .boolean) :: bg) ({ frames := 1, cells := 0, slots := 0, locals := 22 }) (pcW dC dI [.ref h0, .int v1] sz [(h0, .inr (9, [.ref p_bytes, .ref p_ts, .ref p_tc, .int n_ta, .int n_to, .int n_tl])), (p_bytes, .inl (k_bytes, 600, .inl f_bytes))] [(k_bytes, .byte)]) (va_Qi (fun (r : Int32) (u : Unit) => (r = 1 ∧ bgN f_bytes (Int32.toNatClampNeg n_tl) (Int32.toNatClampNeg v1) = true) ∨ (r = 0 ∧ bgN f_bytes (Int32.toNatClampNeg n_tl) (Int32.toNatClampNeg v1) = false)) (fun (u : Unit) (t : State) => va_P (dC, dI) vwCl [(h0, .inr (9, [.ref p_bytes, .ref p_ts, .ref p_tc, .int n_ta, .int n_to, .int n_tl])), (p_bytes, .inl (k_bytes, 600, .inl f_bytes))] t.heap ∧ va_K (dC, dI) vwCl [(k_bytes, .byte)] t ∧ va_D (va_A [(h0, .inr (9, [.ref p_bytes, .ref p_ts, .ref p_tc, .int n_ta, .int n_to, .int n_tl])), (p_bytes, .inl (k_bytes, 600, .inl f_bytes))] sz) [(h0, .inr (9, [.ref p_bytes, .ref p_ts, .ref p_tc, .int n_ta, .int n_to, .int n_tl])), (p_bytes, .inl (k_bytes, 600, .inl f_bytes))]) (va_A [(h0, .inr (9, [.ref p_bytes, .ref p_ts, .ref p_tc, .int n_ta, .int n_to, .int n_tl])), (p_bytes, .inl (k_bytes, 600, .inl f_bytes))] sz)) 0 0 (va_A [(h0, .inr (9, [.ref p_bytes, .ref p_ts, .ref p_tc, .int n_ta, .int n_to, .int n_tl])), (p_bytes, .inl (k_bytes, 600, .inl f_bytes))] sz) := by
  refine Met.ofW (cc := cX9_beginsToken) (maxL := 3) (ret := (some .boolean)) pnX9 rfl ?_
  intro p e s m args below meth c s₁ B hml hv
  obtain ⟨rfl, hsz, hP, hK, hD0, hN⟩ := hv
  have hx := B.exec
  have hb := B.bytes
  have hr := B.returns
  have htb : ∀ w ∈ bg, w.before [.ref h0, .int v1].toArray s = true := fun w h => atoms_spec (ws := Cond.code yX9_beginsToken cX9_beginsToken 3 (some .boolean) :: bg) B.pre w (List.mem_cons_of_mem _ h)
  have hown : s.vm.findClass RX9 = some m.cls := findClass_of_methodNamed B.named
  have hlocks := B.notSynchronized
  subst hsz
  have hD := hD0.self (sz := s.heap.size)
  generalize hAe : va_A [(h0, .inr (9, [.ref p_bytes, .ref p_ts, .ref p_tc, .int n_ta, .int n_to, .int n_tl])), (p_bytes, .inl (k_bytes, 600, .inl f_bytes))] s.heap.size = A at hD ⊢
  have hA : ∀ q : Nat, s.heap.size ≤ q → A q := fun q h => by rw [← hAe]; exact Or.inr h
  have hS : va_S A s.heap s.heap [] := va_S.rf
  have hl := lv_entry ([.ref h0, .int v1]) (n := 3) (Nat.le_of_ble_eq_true rfl)
  rw [lg_entry_eq]
  generalize (lg_sl ([.ref h0, .int v1]) ++ List.replicate (3 - (lg_sl ([.ref h0, .int v1])).length) Slot.unset).toArray = ls at hl ⊢
  change lv_has ls 3 [(0, .ref h0), (1, .int v1)] at hl
  clear hD0 hAe
  refine go0 (wsP := fun H => va_P (dC, dI) vwCl [(h0, .inr (9, [.ref p_bytes, .ref p_ts, .ref p_tc, .int n_ta, .int n_to, .int n_tl])), (p_bytes, .inl (k_bytes, 600, .inl f_bytes))] H) hP hS ?_
  clear hP hS; intro H locs hP hS
  change va_P (dC, dI) vwCl [(h0, .inr (9, [.ref p_bytes, .ref p_ts, .ref p_tc, .int n_ta, .int n_to, .int n_tl])), (p_bytes, .inl (k_bytes, 600, .inl f_bytes))] H at hP
  have t_1 : (((Int32.toNatClampNeg v1) : Nat) : Int) = v1.toInt := cl_int (lg_X9_beginsToken_0 n_ta n_to n_tl v1 yq yv)
  refine lv_aload_n hx hb dX9_beginsToken_0 rfl (lv_at hl 0 rfl) ?_
  refine lv_iload_n hx hb dX9_beginsToken_1 rfl (lv_at hl 1 rfl) ?_
  have hPc := hP.sub (ws' := [(h0, .inr (9, [.ref p_bytes, .ref p_ts, .ref p_tc, .int n_ta, .int n_to, .int n_tl])), (p_bytes, .inl (k_bytes, 600, .inl f_bytes))]) [0, 1] rfl
  have hDc := hD.sub (ws' := [(h0, .inr (9, [.ref p_bytes, .ref p_ts, .ref p_tc, .int n_ta, .int n_to, .int n_tl])), (p_bytes, .inl (k_bytes, 600, .inl f_bytes))]) [0, 1] (by decide) rfl
  have hKc := hK.sub (tys' := [(k_bytes, .byte)]) [0] rfl
  have hFc := va_free (wc := [(h0, .inr (9, [.ref p_bytes, .ref p_ts, .ref p_tc, .int n_ta, .int n_to, .int n_tl])), (p_bytes, .inl (k_bytes, 600, .inl f_bytes))]) hD hS hA [0, 1] rfl
  refine va_calli (va_runV (C := RX9) (As := [.int v1]) (rest := []) ⟨hx, hb, hml, hown, htb⟩ (kX9_kindAt l dC dI H.size h0 p_bytes p_ts p_tc n_ta n_to n_tl k_bytes f_bytes v1 yq (lg_X9_beginsToken_1 n_ta n_to n_tl v1 yq yv t_1)) ⟨callB_of 1 htb (gd_c m_821) rfl rfl rfl (htb _ m_10) (htb _ m_818) hdX9_kindAt ⟨(Nat.le_of_ble_eq_true rfl), (Nat.le_of_ble_eq_true rfl)⟩, htb _ m_820, htb _ ms_17⟩ ⟨pcW_blind, va_recv hKc hPc (ci := 9) (q0 := 0) rfl rfl, pcW_at hPc hKc hDc hN⟩ rfl rfl hl.1 rfl (lv_room (Nat.le_of_ble_eq_true rfl)) dX9_beginsToken_2 ⟨(Nat.le_of_ble_eq_true rfl), (Nat.le_of_ble_eq_true rfl)⟩) hS (fun q _ h => hFc q h) hFc (fun r_2 u t H1 locs1 ht hvm h_3 hB hz1 hk1 hS1 => ?_)
  obtain ⟨hP1, hK1, hD1⟩ := hB
  rw [ht] at hP1
  obtain ⟨hPn, hDn⟩ := va_join (wr := []) (w1 := [(h0, .inr (9, [.ref p_bytes, .ref p_ts, .ref p_tc, .int n_ta, .int n_to, .int n_tl])), (p_bytes, .inl (k_bytes, 600, .inl f_bytes))]) hP hD [0, 1] [] rfl rfl (by decide) (by decide) hk1 hFc hP1 hD1
  clear hP1 hD1 hK1
  clear hP hD hS hPc hDc hKc hFc hk1 hz1 ht hvm
  clear t
  revert hS1 hPn hDn; generalize H1 = H; generalize locs1 = locs; intro hS hP hD
  change va_P (dC, dI) vwCl [(h0, .inr (9, [.ref p_bytes, .ref p_ts, .ref p_tc, .int n_ta, .int n_to, .int n_tl])), (p_bytes, .inl (k_bytes, 600, .inl f_bytes))] H at hP
  change va_D A [(h0, .inr (9, [.ref p_bytes, .ref p_ts, .ref p_tc, .int n_ta, .int n_to, .int n_tl])), (p_bytes, .inl (k_bytes, 600, .inl f_bytes))] at hD
  refine lv_istore_n (lv' := [(2, .int r_2), (0, .ref h0), (1, .int v1)]) hx hb dX9_beginsToken_5 rfl hl (by decide) rfl ?_
  clear hl; intro ls hl
  refine lv_iload_n hx hb dX9_beginsToken_6 rfl (lv_at hl 0 rfl) ?_
  refine lv_iconst (v := 2) hx hb dX9_beginsToken_7 (by decide) ?_
  refine lv_icmp_eq (tgt := 31) hx hb dX9_beginsToken_8 (by decide) (fun c_4 => ?_) (fun c_4 => ?_)
  · have t_5 : r_2.toInt = (2 : Int) := i_eq rfl (by decide) c_4
    refine lv_iconst (v := 1) hx hb dX9_beginsToken_31 (by decide) ?_
    refine lv_goto (tgt := 36) hx hb dX9_beginsToken_32 (by decide) ?_
    refine W.widen (k := 0) (n := 0) (Nat.le_of_ble_eq_true rfl) (Nat.le_of_ble_eq_true rfl) ?_
    have hP9 := hP.sub (ws' := [(h0, .inr (9, [.ref p_bytes, .ref p_ts, .ref p_tc, .int n_ta, .int n_to, .int n_tl])), (p_bytes, .inl (k_bytes, 600, .inl f_bytes))]) [0, 1] rfl
    have hD9 := hD.sub (ws' := [(h0, .inr (9, [.ref p_bytes, .ref p_ts, .ref p_tc, .int n_ta, .int n_to, .int n_tl])), (p_bytes, .inl (k_bytes, 600, .inl f_bytes))]) [0, 1] (by decide) rfl
    have hK9 := hK.sub (tys' := [(k_bytes, .byte)]) [0] rfl
    exact W.zret (ty := .boolean) (v := 1) hx hb hr rfl (fun t ht hW => ⟨⟨1, (), rfl, (Or.inl ⟨rfl, (decide_eq_true (lg_X9_beginsToken_2 n_ta n_to n_tl f_bytes v1 r_2 yq yv t_1 h_3 t_5))⟩), ⟨by rw [ht]; exact hP9, va_K.moved hW.alike hK9, hD9⟩⟩, hS.F ht⟩) hS.2.2 dX9_beginsToken_36
  · have t_5 : ¬ r_2.toInt = (2 : Int) := i_ne rfl (by decide) c_4
    refine lv_iload_n hx hb dX9_beginsToken_11 rfl (lv_at hl 0 rfl) ?_
    refine lv_iconst (v := 3) hx hb dX9_beginsToken_12 (by decide) ?_
    refine lv_icmp_eq (tgt := 35) hx hb dX9_beginsToken_13 (by decide) (fun c_6 => ?_) (fun c_6 => ?_)
    · have t_7 : r_2.toInt = (3 : Int) := i_eq rfl (by decide) c_6
      refine lv_iconst (v := 0) hx hb dX9_beginsToken_35 (by decide) ?_
      refine W.widen (k := 0) (n := 0) (Nat.le_of_ble_eq_true rfl) (Nat.le_of_ble_eq_true rfl) ?_
      have hP9 := hP.sub (ws' := [(h0, .inr (9, [.ref p_bytes, .ref p_ts, .ref p_tc, .int n_ta, .int n_to, .int n_tl])), (p_bytes, .inl (k_bytes, 600, .inl f_bytes))]) [0, 1] rfl
      have hD9 := hD.sub (ws' := [(h0, .inr (9, [.ref p_bytes, .ref p_ts, .ref p_tc, .int n_ta, .int n_to, .int n_tl])), (p_bytes, .inl (k_bytes, 600, .inl f_bytes))]) [0, 1] (by decide) rfl
      have hK9 := hK.sub (tys' := [(k_bytes, .byte)]) [0] rfl
      exact W.zret (ty := .boolean) (v := 0) hx hb hr rfl (fun t ht hW => ⟨⟨0, (), rfl, (Or.inr (⟨rfl, (decide_eq_false (lg_X9_beginsToken_3 n_ta n_to n_tl f_bytes v1 r_2 yq yv t_1 h_3 t_5 t_7))⟩)), ⟨by rw [ht]; exact hP9, va_K.moved hW.alike hK9, hD9⟩⟩, hS.F ht⟩) hS.2.2 dX9_beginsToken_36
    · have t_7 : ¬ r_2.toInt = (3 : Int) := i_ne rfl (by decide) c_6
      refine lv_iload_n hx hb dX9_beginsToken_16 rfl (lv_at hl 2 rfl) ?_
      refine lv_if_eq (tgt := 31) hx hb dX9_beginsToken_17 (by decide) (fun c_8 => ?_) (fun c_8 => ?_)
      · have t_9 : v1.toInt = (0 : Int) := i_eq rfl (by decide) c_8
        refine lv_iconst (v := 1) hx hb dX9_beginsToken_31 (by decide) ?_
        refine lv_goto (tgt := 36) hx hb dX9_beginsToken_32 (by decide) ?_
        refine W.widen (k := 0) (n := 0) (Nat.le_of_ble_eq_true rfl) (Nat.le_of_ble_eq_true rfl) ?_
        have hP9 := hP.sub (ws' := [(h0, .inr (9, [.ref p_bytes, .ref p_ts, .ref p_tc, .int n_ta, .int n_to, .int n_tl])), (p_bytes, .inl (k_bytes, 600, .inl f_bytes))]) [0, 1] rfl
        have hD9 := hD.sub (ws' := [(h0, .inr (9, [.ref p_bytes, .ref p_ts, .ref p_tc, .int n_ta, .int n_to, .int n_tl])), (p_bytes, .inl (k_bytes, 600, .inl f_bytes))]) [0, 1] (by decide) rfl
        have hK9 := hK.sub (tys' := [(k_bytes, .byte)]) [0] rfl
        exact W.zret (ty := .boolean) (v := 1) hx hb hr rfl (fun t ht hW => ⟨⟨1, (), rfl, (Or.inl ⟨rfl, (decide_eq_true (lg_X9_beginsToken_4 n_ta n_to n_tl f_bytes v1 r_2 yq yv t_1 h_3 t_5 t_7 t_9))⟩), ⟨by rw [ht]; exact hP9, va_K.moved hW.alike hK9, hD9⟩⟩, hS.F ht⟩) hS.2.2 dX9_beginsToken_36
      · have t_9 : ¬ v1.toInt = (0 : Int) := i_ne rfl (by decide) c_8
        refine lv_aload_n hx hb dX9_beginsToken_20 rfl (lv_at hl 1 rfl) ?_
        refine lv_iload_n hx hb dX9_beginsToken_21 rfl (lv_at hl 2 rfl) ?_
        refine lv_iconst (v := 1) hx hb dX9_beginsToken_22 (by decide) ?_
        refine lv_isub hx hb dX9_beginsToken_23 ?_
        refine lv_topi (fun x_10 ex_11 => ?_)
        have t_12 : x_10.toInt = v1.toInt - (1 : Int) := i_sub rfl (by decide) (lg_X9_beginsToken_5 n_ta n_to n_tl f_bytes v1 r_2 yq yv t_1 h_3 t_5 t_7 t_9) ex_11
        have hPc := hP.sub (ws' := [(h0, .inr (9, [.ref p_bytes, .ref p_ts, .ref p_tc, .int n_ta, .int n_to, .int n_tl])), (p_bytes, .inl (k_bytes, 600, .inl f_bytes))]) [0, 1] rfl
        have hDc := hD.sub (ws' := [(h0, .inr (9, [.ref p_bytes, .ref p_ts, .ref p_tc, .int n_ta, .int n_to, .int n_tl])), (p_bytes, .inl (k_bytes, 600, .inl f_bytes))]) [0, 1] (by decide) rfl
        have hKc := hK.sub (tys' := [(k_bytes, .byte)]) [0] rfl
        have hFc := va_free (wc := [(h0, .inr (9, [.ref p_bytes, .ref p_ts, .ref p_tc, .int n_ta, .int n_to, .int n_tl])), (p_bytes, .inl (k_bytes, 600, .inl f_bytes))]) hD hS hA [0, 1] rfl
        refine va_calli (va_runV (C := RX9) (As := [.int x_10]) (rest := []) ⟨hx, hb, hml, hown, htb⟩ (kX9_kindAt l dC dI H.size h0 p_bytes p_ts p_tc n_ta n_to n_tl k_bytes f_bytes x_10 yq (lg_X9_beginsToken_6 n_ta n_to n_tl f_bytes v1 r_2 x_10 yq yv t_1 h_3 t_5 t_7 t_9 t_12)) ⟨callB_of 1 htb (gd_c m_821) rfl rfl rfl (htb _ m_10) (htb _ m_818) hdX9_kindAt ⟨(Nat.le_of_ble_eq_true rfl), (Nat.le_of_ble_eq_true rfl)⟩, htb _ m_820, htb _ ms_17⟩ ⟨pcW_blind, va_recv hKc hPc (ci := 9) (q0 := 0) rfl rfl, pcW_at hPc hKc hDc hN⟩ rfl rfl hl.1 rfl (lv_room (Nat.le_of_ble_eq_true rfl)) dX9_beginsToken_24 ⟨(Nat.le_of_ble_eq_true rfl), (Nat.le_of_ble_eq_true rfl)⟩) hS (fun q _ h => hFc q h) hFc (fun r_13 u t H1 locs1 ht hvm h_14 hB hz1 hk1 hS1 => ?_)
        obtain ⟨hP1, hK1, hD1⟩ := hB
        rw [ht] at hP1
        obtain ⟨hPn, hDn⟩ := va_join (wr := []) (w1 := [(h0, .inr (9, [.ref p_bytes, .ref p_ts, .ref p_tc, .int n_ta, .int n_to, .int n_tl])), (p_bytes, .inl (k_bytes, 600, .inl f_bytes))]) hP hD [0, 1] [] rfl rfl (by decide) (by decide) hk1 hFc hP1 hD1
        clear hP1 hD1 hK1
        clear hP hD hS hPc hDc hKc hFc hk1 hz1 ht hvm
        clear t
        revert hS1 hPn hDn; generalize H1 = H; generalize locs1 = locs; intro hS hP hD
        change va_P (dC, dI) vwCl [(h0, .inr (9, [.ref p_bytes, .ref p_ts, .ref p_tc, .int n_ta, .int n_to, .int n_tl])), (p_bytes, .inl (k_bytes, 600, .inl f_bytes))] H at hP
        change va_D A [(h0, .inr (9, [.ref p_bytes, .ref p_ts, .ref p_tc, .int n_ta, .int n_to, .int n_tl])), (p_bytes, .inl (k_bytes, 600, .inl f_bytes))] at hD
        have t_15 : r_13.toInt = kdN f_bytes (Int32.toNatClampNeg n_tl) ((Int32.toNatClampNeg v1) - 1) := by rw [h_14.1, cl_p (lg_X9_beginsToken_7 n_ta n_to n_tl f_bytes v1 r_2 x_10 r_13 yq yv t_1 h_3 t_5 t_7 t_9 t_12 h_14)]
        refine lv_iload_n hx hb dX9_beginsToken_27 rfl (lv_at hl 0 rfl) ?_
        refine lv_icmp_eq (tgt := 35) hx hb dX9_beginsToken_28 (by decide) (fun c_16 => ?_) (fun c_16 => ?_)
        · have t_17 : r_13.toInt = r_2.toInt := i_eq rfl rfl c_16
          refine lv_iconst (v := 0) hx hb dX9_beginsToken_35 (by decide) ?_
          refine W.widen (k := 0) (n := 0) (Nat.le_of_ble_eq_true rfl) (Nat.le_of_ble_eq_true rfl) ?_
          have hP9 := hP.sub (ws' := [(h0, .inr (9, [.ref p_bytes, .ref p_ts, .ref p_tc, .int n_ta, .int n_to, .int n_tl])), (p_bytes, .inl (k_bytes, 600, .inl f_bytes))]) [0, 1] rfl
          have hD9 := hD.sub (ws' := [(h0, .inr (9, [.ref p_bytes, .ref p_ts, .ref p_tc, .int n_ta, .int n_to, .int n_tl])), (p_bytes, .inl (k_bytes, 600, .inl f_bytes))]) [0, 1] (by decide) rfl
          have hK9 := hK.sub (tys' := [(k_bytes, .byte)]) [0] rfl
          exact W.zret (ty := .boolean) (v := 0) hx hb hr rfl (fun t ht hW => ⟨⟨0, (), rfl, (Or.inr (⟨rfl, (decide_eq_false (lg_X9_beginsToken_8 n_ta n_to n_tl f_bytes v1 r_2 x_10 r_13 yq yv t_1 h_3 t_5 t_7 t_9 t_12 h_14 t_15 t_17))⟩)), ⟨by rw [ht]; exact hP9, va_K.moved hW.alike hK9, hD9⟩⟩, hS.F ht⟩) hS.2.2 dX9_beginsToken_36
        · have t_17 : ¬ r_13.toInt = r_2.toInt := i_ne rfl rfl c_16
          refine lv_iconst (v := 1) hx hb dX9_beginsToken_31 (by decide) ?_
          refine lv_goto (tgt := 36) hx hb dX9_beginsToken_32 (by decide) ?_
          refine W.widen (k := 0) (n := 0) (Nat.le_of_ble_eq_true rfl) (Nat.le_of_ble_eq_true rfl) ?_
          have hP9 := hP.sub (ws' := [(h0, .inr (9, [.ref p_bytes, .ref p_ts, .ref p_tc, .int n_ta, .int n_to, .int n_tl])), (p_bytes, .inl (k_bytes, 600, .inl f_bytes))]) [0, 1] rfl
          have hD9 := hD.sub (ws' := [(h0, .inr (9, [.ref p_bytes, .ref p_ts, .ref p_tc, .int n_ta, .int n_to, .int n_tl])), (p_bytes, .inl (k_bytes, 600, .inl f_bytes))]) [0, 1] (by decide) rfl
          have hK9 := hK.sub (tys' := [(k_bytes, .byte)]) [0] rfl
          exact W.zret (ty := .boolean) (v := 1) hx hb hr rfl (fun t ht hW => ⟨⟨1, (), rfl, (Or.inl ⟨rfl, (decide_eq_true (lg_X9_beginsToken_9 n_ta n_to n_tl f_bytes v1 r_2 x_10 r_13 yq yv t_1 h_3 t_5 t_7 t_9 t_12 h_14 t_15 t_17))⟩), ⟨by rw [ht]; exact hP9, va_K.moved hW.alike hK9, hD9⟩⟩, hS.F ht⟩) hS.2.2 dX9_beginsToken_36

theorem lg_X9_codeOfSign_0 (n_ta : Int32) (n_to : Int32) (n_tl : Int32) (f_bytes : Nat → Int32) (v1 : Int32) (yq : 0 ≤ n_ta.toInt ∧ n_ta.toInt ≤ 600 ∧ 0 ≤ n_to.toInt ∧ n_to.toInt ≤ 600 ∧ 0 ≤ n_tl.toInt ∧ n_tl.toInt ≤ 600) (yv : 0 ≤ v1.toInt ∧ v1.toInt < n_tl.toInt) (t_2 : v1.toInt < (0 : Int)) : (-1 : Int) = csN (f_bytes (Int32.toNatClampNeg v1)).toInt := by
  have := rg_rng n_ta; have := rg_rng n_to; have := rg_rng n_tl; have := rg_rng v1; unfold csN; (repeat' split) <;> omega
theorem lg_X9_codeOfSign_1 (n_ta : Int32) (n_to : Int32) (n_tl : Int32) (f_bytes : Nat → Int32) (v1 : Int32) (yq : 0 ≤ n_ta.toInt ∧ n_ta.toInt ≤ 600 ∧ 0 ≤ n_to.toInt ∧ n_to.toInt ≤ 600 ∧ 0 ≤ n_tl.toInt ∧ n_tl.toInt ≤ 600) (yv : 0 ≤ v1.toInt ∧ v1.toInt < n_tl.toInt) (t_2 : (0 : Int) ≤ v1.toInt) (t_8 : n_tl.toInt ≤ v1.toInt) : (-1 : Int) = csN (f_bytes (Int32.toNatClampNeg v1)).toInt := by
  have := rg_rng n_ta; have := rg_rng n_to; have := rg_rng n_tl; have := rg_rng v1; unfold csN; (repeat' split) <;> omega
theorem lg_X9_codeOfSign_2 (n_ta : Int32) (n_to : Int32) (n_tl : Int32) (v1 : Int32) (yq : 0 ≤ n_ta.toInt ∧ n_ta.toInt ≤ 600 ∧ 0 ≤ n_to.toInt ∧ n_to.toInt ≤ 600 ∧ 0 ≤ n_tl.toInt ∧ n_tl.toInt ≤ 600) (yv : 0 ≤ v1.toInt ∧ v1.toInt < n_tl.toInt) (t_2 : (0 : Int) ≤ v1.toInt) (t_8 : v1.toInt < n_tl.toInt) : 0 ≤ v1.toInt ∧ v1.toInt < ((600 : Nat) : Int) := by
  have := rg_rng n_ta; have := rg_rng n_to; have := rg_rng n_tl; have := rg_rng v1; omega
theorem lg_X9_codeOfSign_3 (n_ta : Int32) (n_to : Int32) (n_tl : Int32) (f_bytes : Nat → Int32) (v1 : Int32) (x_13 : Int32) (yq : 0 ≤ n_ta.toInt ∧ n_ta.toInt ≤ 600 ∧ 0 ≤ n_to.toInt ∧ n_to.toInt ≤ 600 ∧ 0 ≤ n_tl.toInt ∧ n_tl.toInt ≤ 600) (yv : 0 ≤ v1.toInt ∧ v1.toInt < n_tl.toInt) (t_2 : (0 : Int) ≤ v1.toInt) (t_8 : v1.toInt < n_tl.toInt) (t_15 : x_13.toInt = (f_bytes (Int32.toNatClampNeg v1)).toInt) (t_17 : x_13.toInt = (60 : Int)) : x_13.toInt = csN (f_bytes (Int32.toNatClampNeg v1)).toInt := by
  have := rg_rng n_ta; have := rg_rng n_to; have := rg_rng n_tl; have := rg_rng v1; have := rg_rng x_13; unfold csN; (repeat' split) <;> omega
theorem lg_X9_codeOfSign_4 (n_ta : Int32) (n_to : Int32) (n_tl : Int32) (f_bytes : Nat → Int32) (v1 : Int32) (x_13 : Int32) (yq : 0 ≤ n_ta.toInt ∧ n_ta.toInt ≤ 600 ∧ 0 ≤ n_to.toInt ∧ n_to.toInt ≤ 600 ∧ 0 ≤ n_tl.toInt ∧ n_tl.toInt ≤ 600) (yv : 0 ≤ v1.toInt ∧ v1.toInt < n_tl.toInt) (t_2 : (0 : Int) ≤ v1.toInt) (t_8 : v1.toInt < n_tl.toInt) (t_15 : x_13.toInt = (f_bytes (Int32.toNatClampNeg v1)).toInt) (t_17 : ¬ x_13.toInt = (60 : Int)) (t_19 : x_13.toInt = (62 : Int)) : x_13.toInt = csN (f_bytes (Int32.toNatClampNeg v1)).toInt := by
  have := rg_rng n_ta; have := rg_rng n_to; have := rg_rng n_tl; have := rg_rng v1; have := rg_rng x_13; unfold csN; (repeat' split) <;> omega
theorem lg_X9_codeOfSign_5 (n_ta : Int32) (n_to : Int32) (n_tl : Int32) (f_bytes : Nat → Int32) (v1 : Int32) (x_13 : Int32) (yq : 0 ≤ n_ta.toInt ∧ n_ta.toInt ≤ 600 ∧ 0 ≤ n_to.toInt ∧ n_to.toInt ≤ 600 ∧ 0 ≤ n_tl.toInt ∧ n_tl.toInt ≤ 600) (yv : 0 ≤ v1.toInt ∧ v1.toInt < n_tl.toInt) (t_2 : (0 : Int) ≤ v1.toInt) (t_8 : v1.toInt < n_tl.toInt) (t_15 : x_13.toInt = (f_bytes (Int32.toNatClampNeg v1)).toInt) (t_17 : ¬ x_13.toInt = (60 : Int)) (t_19 : ¬ x_13.toInt = (62 : Int)) (t_21 : x_13.toInt = (61 : Int)) : x_13.toInt = csN (f_bytes (Int32.toNatClampNeg v1)).toInt := by
  have := rg_rng n_ta; have := rg_rng n_to; have := rg_rng n_tl; have := rg_rng v1; have := rg_rng x_13; unfold csN; (repeat' split) <;> omega
theorem lg_X9_codeOfSign_6 (n_ta : Int32) (n_to : Int32) (n_tl : Int32) (f_bytes : Nat → Int32) (v1 : Int32) (x_13 : Int32) (yq : 0 ≤ n_ta.toInt ∧ n_ta.toInt ≤ 600 ∧ 0 ≤ n_to.toInt ∧ n_to.toInt ≤ 600 ∧ 0 ≤ n_tl.toInt ∧ n_tl.toInt ≤ 600) (yv : 0 ≤ v1.toInt ∧ v1.toInt < n_tl.toInt) (t_2 : (0 : Int) ≤ v1.toInt) (t_8 : v1.toInt < n_tl.toInt) (t_15 : x_13.toInt = (f_bytes (Int32.toNatClampNeg v1)).toInt) (t_17 : ¬ x_13.toInt = (60 : Int)) (t_19 : ¬ x_13.toInt = (62 : Int)) (t_21 : ¬ x_13.toInt = (61 : Int)) (t_23 : ¬ x_13.toInt = (59 : Int)) : (-1 : Int) = csN (f_bytes (Int32.toNatClampNeg v1)).toInt := by
  have := rg_rng n_ta; have := rg_rng n_to; have := rg_rng n_tl; have := rg_rng v1; have := rg_rng x_13; unfold csN; (repeat' split) <;> omega
theorem lg_X9_codeOfSign_7 (n_ta : Int32) (n_to : Int32) (n_tl : Int32) (f_bytes : Nat → Int32) (v1 : Int32) (x_13 : Int32) (yq : 0 ≤ n_ta.toInt ∧ n_ta.toInt ≤ 600 ∧ 0 ≤ n_to.toInt ∧ n_to.toInt ≤ 600 ∧ 0 ≤ n_tl.toInt ∧ n_tl.toInt ≤ 600) (yv : 0 ≤ v1.toInt ∧ v1.toInt < n_tl.toInt) (t_2 : (0 : Int) ≤ v1.toInt) (t_8 : v1.toInt < n_tl.toInt) (t_15 : x_13.toInt = (f_bytes (Int32.toNatClampNeg v1)).toInt) (t_17 : ¬ x_13.toInt = (60 : Int)) (t_19 : ¬ x_13.toInt = (62 : Int)) (t_21 : ¬ x_13.toInt = (61 : Int)) (t_23 : x_13.toInt = (59 : Int)) : x_13.toInt = csN (f_bytes (Int32.toNatClampNeg v1)).toInt := by
  have := rg_rng n_ta; have := rg_rng n_to; have := rg_rng n_tl; have := rg_rng v1; have := rg_rng x_13; unfold csN; (repeat' split) <;> omega
set_option maxHeartbeats 4000000 in
set_option maxRecDepth 100000 in
theorem kX9_codeOfSign (l : Launch) (dC : Nat → ClassId) (dI : Nat → Nat → Nat) (sz : Nat) (h0 : Nat) (p_bytes : Nat) (p_ts : Nat) (p_tc : Nat) (n_ta : Int32) (n_to : Int32) (n_tl : Int32) (k_bytes : ClassId) (f_bytes : Nat → Int32) (v1 : Int32) (yq : 0 ≤ n_ta.toInt ∧ n_ta.toInt ≤ 600 ∧ 0 ≤ n_to.toInt ∧ n_to.toInt ≤ 600 ∧ 0 ≤ n_tl.toInt ∧ n_tl.toInt ≤ 600) (yv : 0 ≤ v1.toInt ∧ v1.toInt < n_tl.toInt) : Met l yX9_codeOfSign (Cond.code yX9_codeOfSign cX9_codeOfSign 3 (some .int) :: bg) ({ frames := 0, cells := 0, slots := 0, locals := 0 }) (pcW dC dI [.ref h0, .int v1] sz [(h0, .inr (9, [.ref p_bytes, .ref p_ts, .ref p_tc, .int n_ta, .int n_to, .int n_tl])), (p_bytes, .inl (k_bytes, 600, .inl f_bytes))] [(k_bytes, .byte)]) (va_Qi (fun (r : Int32) (u : Unit) => r.toInt = csN (f_bytes (Int32.toNatClampNeg v1)).toInt) (fun (u : Unit) (t : State) => va_P (dC, dI) vwCl [(h0, .inr (9, [.ref p_bytes, .ref p_ts, .ref p_tc, .int n_ta, .int n_to, .int n_tl])), (p_bytes, .inl (k_bytes, 600, .inl f_bytes))] t.heap ∧ va_K (dC, dI) vwCl [(k_bytes, .byte)] t ∧ va_D (va_A [(h0, .inr (9, [.ref p_bytes, .ref p_ts, .ref p_tc, .int n_ta, .int n_to, .int n_tl])), (p_bytes, .inl (k_bytes, 600, .inl f_bytes))] sz) [(h0, .inr (9, [.ref p_bytes, .ref p_ts, .ref p_tc, .int n_ta, .int n_to, .int n_tl])), (p_bytes, .inl (k_bytes, 600, .inl f_bytes))]) (va_A [(h0, .inr (9, [.ref p_bytes, .ref p_ts, .ref p_tc, .int n_ta, .int n_to, .int n_tl])), (p_bytes, .inl (k_bytes, 600, .inl f_bytes))] sz)) 0 0 (va_A [(h0, .inr (9, [.ref p_bytes, .ref p_ts, .ref p_tc, .int n_ta, .int n_to, .int n_tl])), (p_bytes, .inl (k_bytes, 600, .inl f_bytes))] sz) := by
  refine Met.ofW (cc := cX9_codeOfSign) (maxL := 3) (ret := (some .int)) pnX9 rfl ?_
  intro p e s m args below meth c s₁ B hml hv
  obtain ⟨rfl, hsz, hP, hK, hD0, hN⟩ := hv
  have hx := B.exec
  have hb := B.bytes
  have hr := B.returns
  have htb : ∀ w ∈ bg, w.before [.ref h0, .int v1].toArray s = true := fun w h => atoms_spec (ws := Cond.code yX9_codeOfSign cX9_codeOfSign 3 (some .int) :: bg) B.pre w (List.mem_cons_of_mem _ h)
  have hown : s.vm.findClass RX9 = some m.cls := findClass_of_methodNamed B.named
  have hlocks := B.notSynchronized
  subst hsz
  have hD := hD0.self (sz := s.heap.size)
  generalize hAe : va_A [(h0, .inr (9, [.ref p_bytes, .ref p_ts, .ref p_tc, .int n_ta, .int n_to, .int n_tl])), (p_bytes, .inl (k_bytes, 600, .inl f_bytes))] s.heap.size = A at hD ⊢
  have hA : ∀ q : Nat, s.heap.size ≤ q → A q := fun q h => by rw [← hAe]; exact Or.inr h
  have hS : va_S A s.heap s.heap [] := va_S.rf
  have hl := lv_entry ([.ref h0, .int v1]) (n := 3) (Nat.le_of_ble_eq_true rfl)
  rw [lg_entry_eq]
  generalize (lg_sl ([.ref h0, .int v1]) ++ List.replicate (3 - (lg_sl ([.ref h0, .int v1])).length) Slot.unset).toArray = ls at hl ⊢
  change lv_has ls 3 [(0, .ref h0), (1, .int v1)] at hl
  clear hD0 hAe
  refine go0 (wsP := fun H => va_P (dC, dI) vwCl [(h0, .inr (9, [.ref p_bytes, .ref p_ts, .ref p_tc, .int n_ta, .int n_to, .int n_tl])), (p_bytes, .inl (k_bytes, 600, .inl f_bytes))] H) hP hS ?_
  clear hP hS; intro H locs hP hS
  change va_P (dC, dI) vwCl [(h0, .inr (9, [.ref p_bytes, .ref p_ts, .ref p_tc, .int n_ta, .int n_to, .int n_tl])), (p_bytes, .inl (k_bytes, 600, .inl f_bytes))] H at hP
  refine lv_iload_n hx hb dX9_codeOfSign_0 rfl (lv_at hl 1 rfl) ?_
  refine lv_if_lt (tgt := 21) hx hb dX9_codeOfSign_1 (by decide) (fun c_1 => ?_) (fun c_1 => ?_)
  · have t_2 : v1.toInt < (0 : Int) := i_lt rfl (by decide) c_1
    refine lv_iconst (v := (-1)) hx hb dX9_codeOfSign_21 (by decide) ?_
    refine lv_istore_n (lv' := [(2, .int (-1)), (0, .ref h0), (1, .int v1)]) hx hb dX9_codeOfSign_22 rfl hl (by decide) rfl ?_
    clear hl; intro ls hl
    refine lv_iload_n hx hb dX9_codeOfSign_23 rfl (lv_at hl 0 rfl) ?_
    refine lv_bipush (v := 60) hx hb dX9_codeOfSign_24 (by decide) ?_
    refine lv_icmp_eq (tgt := 47) hx hb dX9_codeOfSign_26 (by decide) (fun c_3 => absurd c_3 (by decide)) ?_
    intro _
    refine lv_iload_n hx hb dX9_codeOfSign_29 rfl (lv_at hl 0 rfl) ?_
    refine lv_bipush (v := 62) hx hb dX9_codeOfSign_30 (by decide) ?_
    refine lv_icmp_eq (tgt := 47) hx hb dX9_codeOfSign_32 (by decide) (fun c_4 => absurd c_4 (by decide)) ?_
    intro _
    refine lv_iload_n hx hb dX9_codeOfSign_35 rfl (lv_at hl 0 rfl) ?_
    refine lv_bipush (v := 61) hx hb dX9_codeOfSign_36 (by decide) ?_
    refine lv_icmp_eq (tgt := 47) hx hb dX9_codeOfSign_38 (by decide) (fun c_5 => absurd c_5 (by decide)) ?_
    intro _
    refine lv_iload_n hx hb dX9_codeOfSign_41 rfl (lv_at hl 0 rfl) ?_
    refine lv_bipush (v := 59) hx hb dX9_codeOfSign_42 (by decide) ?_
    refine lv_icmp_ne (tgt := 51) hx hb dX9_codeOfSign_44 (by decide) ?_ (fun c_6 => absurd c_6 (by decide))
    intro _
    refine lv_iconst (v := (-1)) hx hb dX9_codeOfSign_51 (by decide) ?_
    refine W.widen (k := 0) (n := 0) (Nat.le_of_ble_eq_true rfl) (Nat.le_of_ble_eq_true rfl) ?_
    have hP9 := hP.sub (ws' := [(h0, .inr (9, [.ref p_bytes, .ref p_ts, .ref p_tc, .int n_ta, .int n_to, .int n_tl])), (p_bytes, .inl (k_bytes, 600, .inl f_bytes))]) [0, 1] rfl
    have hD9 := hD.sub (ws' := [(h0, .inr (9, [.ref p_bytes, .ref p_ts, .ref p_tc, .int n_ta, .int n_to, .int n_tl])), (p_bytes, .inl (k_bytes, 600, .inl f_bytes))]) [0, 1] (by decide) rfl
    have hK9 := hK.sub (tys' := [(k_bytes, .byte)]) [0] rfl
    exact W.iret (v := (-1)) hx hb hr (fun t ht hW => ⟨⟨(-1), (), rfl, (lg_X9_codeOfSign_0 n_ta n_to n_tl f_bytes v1 yq yv t_2), ⟨by rw [ht]; exact hP9, va_K.moved hW.alike hK9, hD9⟩⟩, hS.F ht⟩) hS.2.2 dX9_codeOfSign_52
  · have t_2 : (0 : Int) ≤ v1.toInt := i_nlt rfl (by decide) c_1
    refine lv_iload_n hx hb dX9_codeOfSign_4 rfl (lv_at hl 1 rfl) ?_
    refine lv_aload_n hx hb dX9_codeOfSign_5 rfl (lv_at hl 0 rfl) ?_
    refine va_get (D := (dC, dI)) (ci := 9) (v := .int n_tl) (C := RX9) (T := TX9) (N := 6) hx hb htb iX9 hown hK hP 0 rfl rfl 5 (Nat.le_of_ble_eq_true rfl) (htb _ m_242) (fun _ h9 => h9) rfl dX9_codeOfSign_6 ?_
    refine lv_icmp_ge (tgt := 21) hx hb dX9_codeOfSign_9 (by decide) (fun c_7 => ?_) (fun c_7 => ?_)
    · have t_8 : n_tl.toInt ≤ v1.toInt := i_le rfl rfl c_7
      refine lv_iconst (v := (-1)) hx hb dX9_codeOfSign_21 (by decide) ?_
      refine lv_istore_n (lv' := [(2, .int (-1)), (0, .ref h0), (1, .int v1)]) hx hb dX9_codeOfSign_22 rfl hl (by decide) rfl ?_
      clear hl; intro ls hl
      refine lv_iload_n hx hb dX9_codeOfSign_23 rfl (lv_at hl 0 rfl) ?_
      refine lv_bipush (v := 60) hx hb dX9_codeOfSign_24 (by decide) ?_
      refine lv_icmp_eq (tgt := 47) hx hb dX9_codeOfSign_26 (by decide) (fun c_9 => absurd c_9 (by decide)) ?_
      intro _
      refine lv_iload_n hx hb dX9_codeOfSign_29 rfl (lv_at hl 0 rfl) ?_
      refine lv_bipush (v := 62) hx hb dX9_codeOfSign_30 (by decide) ?_
      refine lv_icmp_eq (tgt := 47) hx hb dX9_codeOfSign_32 (by decide) (fun c_10 => absurd c_10 (by decide)) ?_
      intro _
      refine lv_iload_n hx hb dX9_codeOfSign_35 rfl (lv_at hl 0 rfl) ?_
      refine lv_bipush (v := 61) hx hb dX9_codeOfSign_36 (by decide) ?_
      refine lv_icmp_eq (tgt := 47) hx hb dX9_codeOfSign_38 (by decide) (fun c_11 => absurd c_11 (by decide)) ?_
      intro _
      refine lv_iload_n hx hb dX9_codeOfSign_41 rfl (lv_at hl 0 rfl) ?_
      refine lv_bipush (v := 59) hx hb dX9_codeOfSign_42 (by decide) ?_
      refine lv_icmp_ne (tgt := 51) hx hb dX9_codeOfSign_44 (by decide) ?_ (fun c_12 => absurd c_12 (by decide))
      intro _
      refine lv_iconst (v := (-1)) hx hb dX9_codeOfSign_51 (by decide) ?_
      refine W.widen (k := 0) (n := 0) (Nat.le_of_ble_eq_true rfl) (Nat.le_of_ble_eq_true rfl) ?_
      have hP9 := hP.sub (ws' := [(h0, .inr (9, [.ref p_bytes, .ref p_ts, .ref p_tc, .int n_ta, .int n_to, .int n_tl])), (p_bytes, .inl (k_bytes, 600, .inl f_bytes))]) [0, 1] rfl
      have hD9 := hD.sub (ws' := [(h0, .inr (9, [.ref p_bytes, .ref p_ts, .ref p_tc, .int n_ta, .int n_to, .int n_tl])), (p_bytes, .inl (k_bytes, 600, .inl f_bytes))]) [0, 1] (by decide) rfl
      have hK9 := hK.sub (tys' := [(k_bytes, .byte)]) [0] rfl
      exact W.iret (v := (-1)) hx hb hr (fun t ht hW => ⟨⟨(-1), (), rfl, (lg_X9_codeOfSign_1 n_ta n_to n_tl f_bytes v1 yq yv t_2 t_8), ⟨by rw [ht]; exact hP9, va_K.moved hW.alike hK9, hD9⟩⟩, hS.F ht⟩) hS.2.2 dX9_codeOfSign_52
    · have t_8 : v1.toInt < n_tl.toInt := i_nle rfl rfl c_7
      refine lv_aload_n hx hb dX9_codeOfSign_12 rfl (lv_at hl 0 rfl) ?_
      refine va_get (D := (dC, dI)) (ci := 9) (v := .ref p_bytes) (C := RX9) (T := TX9) (N := 6) hx hb htb iX9 hown hK hP 0 rfl rfl 0 (Nat.le_of_ble_eq_true rfl) (htb _ m_236) (fun _ h9 => h9) rfl dX9_codeOfSign_13 ?_
      refine lv_iload_n hx hb dX9_codeOfSign_16 rfl (lv_at hl 1 rfl) ?_
      refine va_bald hx hb hK hP 1 0 rfl rfl (i_in rfl (lg_X9_codeOfSign_2 n_ta n_to n_tl v1 yq yv t_2 t_8)) dX9_codeOfSign_17 ?_
      refine lv_topi (fun x_13 ex_14 => ?_)
      have t_15 : x_13.toInt = (f_bytes (Int32.toNatClampNeg v1)).toInt := by rw [ex_14]
      refine lv_goto (tgt := 22) hx hb dX9_codeOfSign_18 (by decide) ?_
      refine lv_istore_n (lv' := [(2, .int x_13), (0, .ref h0), (1, .int v1)]) hx hb dX9_codeOfSign_22 rfl hl (by decide) rfl ?_
      clear hl; intro ls hl
      refine lv_iload_n hx hb dX9_codeOfSign_23 rfl (lv_at hl 0 rfl) ?_
      refine lv_bipush (v := 60) hx hb dX9_codeOfSign_24 (by decide) ?_
      refine lv_icmp_eq (tgt := 47) hx hb dX9_codeOfSign_26 (by decide) (fun c_16 => ?_) (fun c_16 => ?_)
      · have t_17 : x_13.toInt = (60 : Int) := i_eq rfl (by decide) c_16
        refine lv_iload_n hx hb dX9_codeOfSign_47 rfl (lv_at hl 0 rfl) ?_
        refine lv_goto (tgt := 52) hx hb dX9_codeOfSign_48 (by decide) ?_
        refine W.widen (k := 0) (n := 0) (Nat.le_of_ble_eq_true rfl) (Nat.le_of_ble_eq_true rfl) ?_
        have hP9 := hP.sub (ws' := [(h0, .inr (9, [.ref p_bytes, .ref p_ts, .ref p_tc, .int n_ta, .int n_to, .int n_tl])), (p_bytes, .inl (k_bytes, 600, .inl f_bytes))]) [0, 1] rfl
        have hD9 := hD.sub (ws' := [(h0, .inr (9, [.ref p_bytes, .ref p_ts, .ref p_tc, .int n_ta, .int n_to, .int n_tl])), (p_bytes, .inl (k_bytes, 600, .inl f_bytes))]) [0, 1] (by decide) rfl
        have hK9 := hK.sub (tys' := [(k_bytes, .byte)]) [0] rfl
        exact W.iret (v := x_13) hx hb hr (fun t ht hW => ⟨⟨x_13, (), rfl, (lg_X9_codeOfSign_3 n_ta n_to n_tl f_bytes v1 x_13 yq yv t_2 t_8 t_15 t_17), ⟨by rw [ht]; exact hP9, va_K.moved hW.alike hK9, hD9⟩⟩, hS.F ht⟩) hS.2.2 dX9_codeOfSign_52
      · have t_17 : ¬ x_13.toInt = (60 : Int) := i_ne rfl (by decide) c_16
        refine lv_iload_n hx hb dX9_codeOfSign_29 rfl (lv_at hl 0 rfl) ?_
        refine lv_bipush (v := 62) hx hb dX9_codeOfSign_30 (by decide) ?_
        refine lv_icmp_eq (tgt := 47) hx hb dX9_codeOfSign_32 (by decide) (fun c_18 => ?_) (fun c_18 => ?_)
        · have t_19 : x_13.toInt = (62 : Int) := i_eq rfl (by decide) c_18
          refine lv_iload_n hx hb dX9_codeOfSign_47 rfl (lv_at hl 0 rfl) ?_
          refine lv_goto (tgt := 52) hx hb dX9_codeOfSign_48 (by decide) ?_
          refine W.widen (k := 0) (n := 0) (Nat.le_of_ble_eq_true rfl) (Nat.le_of_ble_eq_true rfl) ?_
          have hP9 := hP.sub (ws' := [(h0, .inr (9, [.ref p_bytes, .ref p_ts, .ref p_tc, .int n_ta, .int n_to, .int n_tl])), (p_bytes, .inl (k_bytes, 600, .inl f_bytes))]) [0, 1] rfl
          have hD9 := hD.sub (ws' := [(h0, .inr (9, [.ref p_bytes, .ref p_ts, .ref p_tc, .int n_ta, .int n_to, .int n_tl])), (p_bytes, .inl (k_bytes, 600, .inl f_bytes))]) [0, 1] (by decide) rfl
          have hK9 := hK.sub (tys' := [(k_bytes, .byte)]) [0] rfl
          exact W.iret (v := x_13) hx hb hr (fun t ht hW => ⟨⟨x_13, (), rfl, (lg_X9_codeOfSign_4 n_ta n_to n_tl f_bytes v1 x_13 yq yv t_2 t_8 t_15 t_17 t_19), ⟨by rw [ht]; exact hP9, va_K.moved hW.alike hK9, hD9⟩⟩, hS.F ht⟩) hS.2.2 dX9_codeOfSign_52
        · have t_19 : ¬ x_13.toInt = (62 : Int) := i_ne rfl (by decide) c_18
          refine lv_iload_n hx hb dX9_codeOfSign_35 rfl (lv_at hl 0 rfl) ?_
          refine lv_bipush (v := 61) hx hb dX9_codeOfSign_36 (by decide) ?_
          refine lv_icmp_eq (tgt := 47) hx hb dX9_codeOfSign_38 (by decide) (fun c_20 => ?_) (fun c_20 => ?_)
          · have t_21 : x_13.toInt = (61 : Int) := i_eq rfl (by decide) c_20
            refine lv_iload_n hx hb dX9_codeOfSign_47 rfl (lv_at hl 0 rfl) ?_
            refine lv_goto (tgt := 52) hx hb dX9_codeOfSign_48 (by decide) ?_
            refine W.widen (k := 0) (n := 0) (Nat.le_of_ble_eq_true rfl) (Nat.le_of_ble_eq_true rfl) ?_
            have hP9 := hP.sub (ws' := [(h0, .inr (9, [.ref p_bytes, .ref p_ts, .ref p_tc, .int n_ta, .int n_to, .int n_tl])), (p_bytes, .inl (k_bytes, 600, .inl f_bytes))]) [0, 1] rfl
            have hD9 := hD.sub (ws' := [(h0, .inr (9, [.ref p_bytes, .ref p_ts, .ref p_tc, .int n_ta, .int n_to, .int n_tl])), (p_bytes, .inl (k_bytes, 600, .inl f_bytes))]) [0, 1] (by decide) rfl
            have hK9 := hK.sub (tys' := [(k_bytes, .byte)]) [0] rfl
            exact W.iret (v := x_13) hx hb hr (fun t ht hW => ⟨⟨x_13, (), rfl, (lg_X9_codeOfSign_5 n_ta n_to n_tl f_bytes v1 x_13 yq yv t_2 t_8 t_15 t_17 t_19 t_21), ⟨by rw [ht]; exact hP9, va_K.moved hW.alike hK9, hD9⟩⟩, hS.F ht⟩) hS.2.2 dX9_codeOfSign_52
          · have t_21 : ¬ x_13.toInt = (61 : Int) := i_ne rfl (by decide) c_20
            refine lv_iload_n hx hb dX9_codeOfSign_41 rfl (lv_at hl 0 rfl) ?_
            refine lv_bipush (v := 59) hx hb dX9_codeOfSign_42 (by decide) ?_
            refine lv_icmp_ne (tgt := 51) hx hb dX9_codeOfSign_44 (by decide) (fun c_22 => ?_) (fun c_22 => ?_)
            · have t_23 : ¬ x_13.toInt = (59 : Int) := i_ne rfl (by decide) c_22
              refine lv_iconst (v := (-1)) hx hb dX9_codeOfSign_51 (by decide) ?_
              refine W.widen (k := 0) (n := 0) (Nat.le_of_ble_eq_true rfl) (Nat.le_of_ble_eq_true rfl) ?_
              have hP9 := hP.sub (ws' := [(h0, .inr (9, [.ref p_bytes, .ref p_ts, .ref p_tc, .int n_ta, .int n_to, .int n_tl])), (p_bytes, .inl (k_bytes, 600, .inl f_bytes))]) [0, 1] rfl
              have hD9 := hD.sub (ws' := [(h0, .inr (9, [.ref p_bytes, .ref p_ts, .ref p_tc, .int n_ta, .int n_to, .int n_tl])), (p_bytes, .inl (k_bytes, 600, .inl f_bytes))]) [0, 1] (by decide) rfl
              have hK9 := hK.sub (tys' := [(k_bytes, .byte)]) [0] rfl
              exact W.iret (v := (-1)) hx hb hr (fun t ht hW => ⟨⟨(-1), (), rfl, (lg_X9_codeOfSign_6 n_ta n_to n_tl f_bytes v1 x_13 yq yv t_2 t_8 t_15 t_17 t_19 t_21 t_23), ⟨by rw [ht]; exact hP9, va_K.moved hW.alike hK9, hD9⟩⟩, hS.F ht⟩) hS.2.2 dX9_codeOfSign_52
            · have t_23 : x_13.toInt = (59 : Int) := i_eq rfl (by decide) c_22
              refine lv_iload_n hx hb dX9_codeOfSign_47 rfl (lv_at hl 0 rfl) ?_
              refine lv_goto (tgt := 52) hx hb dX9_codeOfSign_48 (by decide) ?_
              refine W.widen (k := 0) (n := 0) (Nat.le_of_ble_eq_true rfl) (Nat.le_of_ble_eq_true rfl) ?_
              have hP9 := hP.sub (ws' := [(h0, .inr (9, [.ref p_bytes, .ref p_ts, .ref p_tc, .int n_ta, .int n_to, .int n_tl])), (p_bytes, .inl (k_bytes, 600, .inl f_bytes))]) [0, 1] rfl
              have hD9 := hD.sub (ws' := [(h0, .inr (9, [.ref p_bytes, .ref p_ts, .ref p_tc, .int n_ta, .int n_to, .int n_tl])), (p_bytes, .inl (k_bytes, 600, .inl f_bytes))]) [0, 1] (by decide) rfl
              have hK9 := hK.sub (tys' := [(k_bytes, .byte)]) [0] rfl
              exact W.iret (v := x_13) hx hb hr (fun t ht hW => ⟨⟨x_13, (), rfl, (lg_X9_codeOfSign_7 n_ta n_to n_tl f_bytes v1 x_13 yq yv t_2 t_8 t_15 t_17 t_19 t_21 t_23), ⟨by rw [ht]; exact hP9, va_K.moved hW.alike hK9, hD9⟩⟩, hS.F ht⟩) hS.2.2 dX9_codeOfSign_52
