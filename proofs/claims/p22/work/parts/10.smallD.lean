theorem lg_X9_append_0 (n_ta : Int32) (n_to : Int32) (n_tl : Int32) (yq : 0 ≤ n_ta.toInt ∧ n_ta.toInt ≤ 600 ∧ 0 ≤ n_to.toInt ∧ n_to.toInt ≤ 600 ∧ 0 ≤ n_tl.toInt ∧ n_tl.toInt ≤ 600) : 0 ≤ (4 : Int) ∧ (4 : Int) ≤ 600 := by
  have := rg_rng n_ta; have := rg_rng n_to; have := rg_rng n_tl; omega
theorem lg_X9_append_1 (n_ta : Int32) (n_to : Int32) (n_tl : Int32) (yq : 0 ≤ n_ta.toInt ∧ n_ta.toInt ≤ 600 ∧ 0 ≤ n_to.toInt ∧ n_to.toInt ≤ 600 ∧ 0 ≤ n_tl.toInt ∧ n_tl.toInt ≤ 600) (h_2 : n_ta.toInt + (4 : Int) ≤ 600) : 0 ≤ n_ta.toInt ∧ n_ta.toInt < ((600 : Nat) : Int) := by
  have := rg_rng n_ta; have := rg_rng n_to; have := rg_rng n_tl; omega
theorem lg_X9_append_2 (n_ta : Int32) (n_to : Int32) (n_tl : Int32) (yq : 0 ≤ n_ta.toInt ∧ n_ta.toInt ≤ 600 ∧ 0 ≤ n_to.toInt ∧ n_to.toInt ≤ 600 ∧ 0 ≤ n_tl.toInt ∧ n_tl.toInt ≤ 600) (h_2 : n_ta.toInt + (4 : Int) ≤ 600) : -2147483648 ≤ n_ta.toInt + (1 : Int) ∧ n_ta.toInt + (1 : Int) < 2147483648 := by
  have := rg_rng n_ta; have := rg_rng n_to; have := rg_rng n_tl; omega
theorem lg_X9_append_3 (n_ta : Int32) (n_to : Int32) (n_tl : Int32) (x_10 : Int32) (yq : 0 ≤ n_ta.toInt ∧ n_ta.toInt ≤ 600 ∧ 0 ≤ n_to.toInt ∧ n_to.toInt ≤ 600 ∧ 0 ≤ n_tl.toInt ∧ n_tl.toInt ≤ 600) (h_2 : n_ta.toInt + (4 : Int) ≤ 600) (t_12 : x_10.toInt = n_ta.toInt + (1 : Int)) : 0 ≤ x_10.toInt ∧ x_10.toInt < ((600 : Nat) : Int) := by
  have := rg_rng n_ta; have := rg_rng n_to; have := rg_rng n_tl; have := rg_rng x_10; omega
theorem lg_X9_append_4 (n_ta : Int32) (n_to : Int32) (n_tl : Int32) (x_10 : Int32) (yq : 0 ≤ n_ta.toInt ∧ n_ta.toInt ≤ 600 ∧ 0 ≤ n_to.toInt ∧ n_to.toInt ≤ 600 ∧ 0 ≤ n_tl.toInt ∧ n_tl.toInt ≤ 600) (h_2 : n_ta.toInt + (4 : Int) ≤ 600) (t_12 : x_10.toInt = n_ta.toInt + (1 : Int)) : -2147483648 ≤ x_10.toInt + (1 : Int) ∧ x_10.toInt + (1 : Int) < 2147483648 := by
  have := rg_rng n_ta; have := rg_rng n_to; have := rg_rng n_tl; have := rg_rng x_10; omega
theorem lg_X9_append_5 (n_ta : Int32) (n_to : Int32) (n_tl : Int32) (x_10 : Int32) (x_19 : Int32) (yq : 0 ≤ n_ta.toInt ∧ n_ta.toInt ≤ 600 ∧ 0 ≤ n_to.toInt ∧ n_to.toInt ≤ 600 ∧ 0 ≤ n_tl.toInt ∧ n_tl.toInt ≤ 600) (h_2 : n_ta.toInt + (4 : Int) ≤ 600) (t_12 : x_10.toInt = n_ta.toInt + (1 : Int)) (t_21 : x_19.toInt = x_10.toInt + (1 : Int)) : 0 ≤ x_19.toInt ∧ x_19.toInt < ((600 : Nat) : Int) := by
  have := rg_rng n_ta; have := rg_rng n_to; have := rg_rng n_tl; have := rg_rng x_10; have := rg_rng x_19; omega
theorem lg_X9_append_6 (n_ta : Int32) (n_to : Int32) (n_tl : Int32) (x_10 : Int32) (x_19 : Int32) (yq : 0 ≤ n_ta.toInt ∧ n_ta.toInt ≤ 600 ∧ 0 ≤ n_to.toInt ∧ n_to.toInt ≤ 600 ∧ 0 ≤ n_tl.toInt ∧ n_tl.toInt ≤ 600) (h_2 : n_ta.toInt + (4 : Int) ≤ 600) (t_12 : x_10.toInt = n_ta.toInt + (1 : Int)) (t_21 : x_19.toInt = x_10.toInt + (1 : Int)) : -2147483648 ≤ x_19.toInt + (1 : Int) ∧ x_19.toInt + (1 : Int) < 2147483648 := by
  have := rg_rng n_ta; have := rg_rng n_to; have := rg_rng n_tl; have := rg_rng x_10; have := rg_rng x_19; omega
theorem lg_X9_append_7 (n_ta : Int32) (n_to : Int32) (n_tl : Int32) (x_10 : Int32) (x_19 : Int32) (x_28 : Int32) (yq : 0 ≤ n_ta.toInt ∧ n_ta.toInt ≤ 600 ∧ 0 ≤ n_to.toInt ∧ n_to.toInt ≤ 600 ∧ 0 ≤ n_tl.toInt ∧ n_tl.toInt ≤ 600) (h_2 : n_ta.toInt + (4 : Int) ≤ 600) (t_12 : x_10.toInt = n_ta.toInt + (1 : Int)) (t_21 : x_19.toInt = x_10.toInt + (1 : Int)) (t_30 : x_28.toInt = x_19.toInt + (1 : Int)) : 0 ≤ x_28.toInt ∧ x_28.toInt < ((600 : Nat) : Int) := by
  have := rg_rng n_ta; have := rg_rng n_to; have := rg_rng n_tl; have := rg_rng x_10; have := rg_rng x_19; have := rg_rng x_28; omega
theorem lg_X9_append_8 (n_ta : Int32) (n_to : Int32) (n_tl : Int32) (x_10 : Int32) (x_19 : Int32) (x_28 : Int32) (yq : 0 ≤ n_ta.toInt ∧ n_ta.toInt ≤ 600 ∧ 0 ≤ n_to.toInt ∧ n_to.toInt ≤ 600 ∧ 0 ≤ n_tl.toInt ∧ n_tl.toInt ≤ 600) (h_2 : n_ta.toInt + (4 : Int) ≤ 600) (t_12 : x_10.toInt = n_ta.toInt + (1 : Int)) (t_21 : x_19.toInt = x_10.toInt + (1 : Int)) (t_30 : x_28.toInt = x_19.toInt + (1 : Int)) : -2147483648 ≤ x_28.toInt + (1 : Int) ∧ x_28.toInt + (1 : Int) < 2147483648 := by
  have := rg_rng n_ta; have := rg_rng n_to; have := rg_rng n_tl; have := rg_rng x_10; have := rg_rng x_19; have := rg_rng x_28; omega
theorem lg_X9_append_9 (n_ta : Int32) (n_to : Int32) (n_tl : Int32) (x_10 : Int32) (x_19 : Int32) (x_28 : Int32) (x_37 : Int32) (yq : 0 ≤ n_ta.toInt ∧ n_ta.toInt ≤ 600 ∧ 0 ≤ n_to.toInt ∧ n_to.toInt ≤ 600 ∧ 0 ≤ n_tl.toInt ∧ n_tl.toInt ≤ 600) (h_2 : n_ta.toInt + (4 : Int) ≤ 600) (t_12 : x_10.toInt = n_ta.toInt + (1 : Int)) (t_21 : x_19.toInt = x_10.toInt + (1 : Int)) (t_30 : x_28.toInt = x_19.toInt + (1 : Int)) (t_39 : x_37.toInt = x_28.toInt + (1 : Int)) : (n_ta.toInt + 4 ≤ 600 ∧ x_37.toInt = n_ta.toInt + 4) ∨ (600 < n_ta.toInt + 4 ∧ x_37.toInt = n_ta.toInt) := by
  have := rg_rng n_ta; have := rg_rng n_to; have := rg_rng n_tl; have := rg_rng x_10; have := rg_rng x_19; have := rg_rng x_28; have := rg_rng x_37; omega
theorem lg_X9_append_10 (n_ta : Int32) (n_to : Int32) (n_tl : Int32) (yq : 0 ≤ n_ta.toInt ∧ n_ta.toInt ≤ 600 ∧ 0 ≤ n_to.toInt ∧ n_to.toInt ≤ 600 ∧ 0 ≤ n_tl.toInt ∧ n_tl.toInt ≤ 600) (h_2 : 600 < n_ta.toInt + (4 : Int)) : (n_ta.toInt + 4 ≤ 600 ∧ n_ta.toInt = n_ta.toInt + 4) ∨ (600 < n_ta.toInt + 4 ∧ n_ta.toInt = n_ta.toInt) := by
  have := rg_rng n_ta; have := rg_rng n_to; have := rg_rng n_tl; omega
set_option maxHeartbeats 4000000 in
set_option maxRecDepth 100000 in
theorem kX9_append (l : Launch) (dC : Nat → ClassId) (dI : Nat → Nat → Nat) (sz : Nat) (h0 : Nat) (p_bytes : Nat) (p_ts : Nat) (p_tc : Nat) (n_ta : Int32) (n_to : Int32) (n_tl : Int32) (k_bytes : ClassId) (f_bytes : Nat → Int32) (v1 : Int32) (yq : 0 ≤ n_ta.toInt ∧ n_ta.toInt ≤ 600 ∧ 0 ≤ n_to.toInt ∧ n_to.toInt ≤ 600 ∧ 0 ≤ n_tl.toInt ∧ n_tl.toInt ≤ 600) : Met l yX9_append (Cond.code yX9_append cX9_append 3 none :: bg) ({ frames := 1, cells := 0, slots := 0, locals := 21 }) (pcW dC dI [.ref h0, .int v1] sz [(h0, .inr (9, [.ref p_bytes, .ref p_ts, .ref p_tc, .int n_ta, .int n_to, .int n_tl])), (p_bytes, .inl (k_bytes, 600, .inl f_bytes))] [(k_bytes, .byte)]) (va_Qv (fun (u : Unit) => True) (fun (u : Unit) (t : State) => ∃ (w_ta : Int32) (w_bytes : Nat → Int32), ((n_ta.toInt + 4 ≤ 600 ∧ w_ta.toInt = n_ta.toInt + 4) ∨ (600 < n_ta.toInt + 4 ∧ w_ta.toInt = n_ta.toInt)) ∧ va_P (dC, dI) vwCl [(h0, .inr (9, [.ref p_bytes, .ref p_ts, .ref p_tc, .int w_ta, .int n_to, .int n_tl])), (p_bytes, .inl (k_bytes, 600, .inl w_bytes))] t.heap ∧ va_K (dC, dI) vwCl [] t ∧ va_D (va_A [(h0, .inr (9, [.ref p_bytes, .ref p_ts, .ref p_tc, .int n_ta, .int n_to, .int n_tl])), (p_bytes, .inl (k_bytes, 600, .inl f_bytes))] sz) [(h0, .inr (9, [.ref p_bytes, .ref p_ts, .ref p_tc, .int w_ta, .int n_to, .int n_tl])), (p_bytes, .inl (k_bytes, 600, .inl w_bytes))]) (va_A [(h0, .inr (9, [.ref p_bytes, .ref p_ts, .ref p_tc, .int n_ta, .int n_to, .int n_tl])), (p_bytes, .inl (k_bytes, 600, .inl f_bytes))] sz)) 0 0 (va_A [(h0, .inr (9, [.ref p_bytes, .ref p_ts, .ref p_tc, .int n_ta, .int n_to, .int n_tl])), (p_bytes, .inl (k_bytes, 600, .inl f_bytes))] sz) := by
  refine Met.ofW (cc := cX9_append) (maxL := 3) (ret := none) pnX9 rfl ?_
  intro p e s m args below meth c s₁ B hml hv
  obtain ⟨rfl, hsz, hP, hK, hD0, hN⟩ := hv
  have hx := B.exec
  have hb := B.bytes
  have hr := B.returns
  have htb : ∀ w ∈ bg, w.before [.ref h0, .int v1].toArray s = true := fun w h => atoms_spec (ws := Cond.code yX9_append cX9_append 3 none :: bg) B.pre w (List.mem_cons_of_mem _ h)
  have hown : s.vm.findClass RX9 = some m.cls := findClass_of_methodNamed B.named
  have hlocks := B.notSynchronized
  subst hsz
  have hD := hD0.self (sz := s.heap.size)
  generalize hAe : va_A [(h0, .inr (9, [.ref p_bytes, .ref p_ts, .ref p_tc, .int n_ta, .int n_to, .int n_tl])), (p_bytes, .inl (k_bytes, 600, .inl f_bytes))] s.heap.size = A at hD ⊢
  have hA : ∀ q : Nat, s.heap.size ≤ q → A q := fun q h => by rw [← hAe]; exact Or.inr h
  have hS : va_S A s.heap s.heap [] := va_S.rf
  have hl := lv_entry ([.ref h0, .int v1]) (n := 3) (Nat.le_of_ble_eq_true rfl)
  rw [lg_entry_eq]
  generalize (lg_sl ([.ref h0, .int v1]) ++ List.replicate (3 - (lg_sl ([.ref h0, .int v1])).length) Slot.unset).toArray = ls at hl ⊢
  change lv_has ls 3 [(0, .ref h0), (1, .int v1)] at hl
  clear hD0 hAe
  refine go0 (wsP := fun H => va_P (dC, dI) vwCl [(h0, .inr (9, [.ref p_bytes, .ref p_ts, .ref p_tc, .int n_ta, .int n_to, .int n_tl])), (p_bytes, .inl (k_bytes, 600, .inl f_bytes))] H) hP hS ?_
  clear hP hS; intro H locs hP hS
  change va_P (dC, dI) vwCl [(h0, .inr (9, [.ref p_bytes, .ref p_ts, .ref p_tc, .int n_ta, .int n_to, .int n_tl])), (p_bytes, .inl (k_bytes, 600, .inl f_bytes))] H at hP
  refine lv_aload_n hx hb dX9_append_0 rfl (lv_at hl 0 rfl) ?_
  refine lv_iconst (v := 4) hx hb dX9_append_1 (by decide) ?_
  have hPc := hP.sub (ws' := [(h0, .inr (9, [.ref p_bytes, .ref p_ts, .ref p_tc, .int n_ta, .int n_to, .int n_tl]))]) [0] rfl
  have hDc := hD.sub (ws' := [(h0, .inr (9, [.ref p_bytes, .ref p_ts, .ref p_tc, .int n_ta, .int n_to, .int n_tl]))]) [0] (by decide) rfl
  have hKc := hK.sub (tys' := []) [] rfl
  have hFc := va_free (wc := [(h0, .inr (9, [.ref p_bytes, .ref p_ts, .ref p_tc, .int n_ta, .int n_to, .int n_tl]))]) hD hS hA [0] rfl
  refine va_calli (va_runV (C := RX9) (As := [.int 4]) (rest := []) ⟨hx, hb, hml, hown, htb⟩ (kX9_hasRoomFor l dC dI H.size h0 p_bytes p_ts p_tc n_ta n_to n_tl 4 (lg_X9_append_0 n_ta n_to n_tl yq)) ⟨callB_of 1 htb (gd_c m_794) rfl rfl rfl (htb _ m_10) (htb _ m_799) hdX9_hasRoomFor ⟨(Nat.le_of_ble_eq_true rfl), (Nat.le_of_ble_eq_true rfl)⟩, htb _ m_792, htb _ m_793⟩ ⟨pcW_blind, va_recv hKc hPc (ci := 9) (q0 := 0) rfl rfl, pcW_at hPc hKc hDc hN⟩ rfl rfl hl.1 rfl (lv_room (Nat.le_of_ble_eq_true rfl)) dX9_append_2 ⟨(Nat.le_of_ble_eq_true rfl), (Nat.le_of_ble_eq_true rfl)⟩) hS (fun q _ h => hFc q h) hFc (fun r_1 u t H1 locs1 ht hvm h_2 hB hz1 hk1 hS1 => ?_)
  obtain ⟨hP1, hK1, hD1⟩ := hB
  rw [ht] at hP1
  obtain ⟨hPn, hDn⟩ := va_join (wr := [(p_bytes, .inl (k_bytes, 600, .inl f_bytes))]) (w1 := [(h0, .inr (9, [.ref p_bytes, .ref p_ts, .ref p_tc, .int n_ta, .int n_to, .int n_tl]))]) hP hD [0] [1] rfl rfl (by decide) (by decide) hk1 hFc hP1 hD1
  clear hP1 hD1 hK1
  clear hP hD hS hPc hDc hKc hFc hk1 hz1 ht hvm
  clear t
  revert hS1 hPn hDn; generalize H1 = H; generalize locs1 = locs; intro hS hP hD
  change va_P (dC, dI) vwCl [(p_bytes, .inl (k_bytes, 600, .inl f_bytes)), (h0, .inr (9, [.ref p_bytes, .ref p_ts, .ref p_tc, .int n_ta, .int n_to, .int n_tl]))] H at hP
  change va_D A [(p_bytes, .inl (k_bytes, 600, .inl f_bytes)), (h0, .inr (9, [.ref p_bytes, .ref p_ts, .ref p_tc, .int n_ta, .int n_to, .int n_tl]))] at hD
  rcases h_2 with ⟨rfl, h_2⟩ | ⟨rfl, h_2⟩
  · refine lv_if_ne (tgt := 9) hx hb dX9_append_5 (by decide) ?_ (fun c_3 => absurd c_3 (by decide))
    intro _
    refine lv_bipush (v := 24) hx hb dX9_append_9 (by decide) ?_
    refine lv_istore_n (lv' := [(2, .int 24), (0, .ref h0), (1, .int v1)]) hx hb dX9_append_11 rfl hl (by decide) rfl ?_
    clear hl; intro ls hl
    refine lv_iload_n hx hb dX9_append_12 rfl (lv_at hl 0 rfl) ?_
    refine lv_if_lt (tgt := 45) hx hb dX9_append_13 (by decide) (fun c_4 => absurd c_4 (by decide)) ?_
    intro _
    refine lv_aload_n hx hb dX9_append_16 rfl (lv_at hl 1 rfl) ?_
    refine va_get (D := (dC, dI)) (ci := 9) (v := .ref p_bytes) (C := RX9) (T := TX9) (N := 6) hx hb htb iX9 hown hK hP 1 rfl rfl 0 (Nat.le_of_ble_eq_true rfl) (htb _ m_236) (fun _ h9 => h9) rfl dX9_append_17 ?_
    refine lv_aload_n hx hb dX9_append_20 rfl (lv_at hl 1 rfl) ?_
    refine va_get (D := (dC, dI)) (ci := 9) (v := .int n_ta) (C := RX9) (T := TX9) (N := 6) hx hb htb iX9 hown hK hP 1 rfl rfl 3 (Nat.le_of_ble_eq_true rfl) (htb _ m_239) (fun _ h9 => h9) rfl dX9_append_21 ?_
    refine lv_iload_n hx hb dX9_append_24 rfl (lv_at hl 2 rfl) ?_
    refine lv_iload_n hx hb dX9_append_25 rfl (lv_at hl 0 rfl) ?_
    refine lv_iushr hx hb dX9_append_26 rfl ?_
    refine lv_topi (fun x_5 ex_6 => ?_)
    refine lv_i2b hx hb dX9_append_27 rfl ?_
    refine lv_topi (fun x_7 ex_8 => ?_)
    refine va_bast hx hb hK hP hD hS 0 0 rfl rfl (i_in rfl (lg_X9_append_1 n_ta n_to n_tl yq h_2)) dX9_append_28 ?_
    clear hP hD hS; intro H locs hP hD hS
    change va_P (dC, dI) vwCl [(p_bytes, .inl (k_bytes, 600, .inl (upd f_bytes (Int32.toNatClampNeg n_ta) (vp_nar .byte x_7)))), (h0, .inr (9, [.ref p_bytes, .ref p_ts, .ref p_tc, .int n_ta, .int n_to, .int n_tl]))] H at hP
    change va_D A [(p_bytes, .inl (k_bytes, 600, .inl (upd f_bytes (Int32.toNatClampNeg n_ta) (vp_nar .byte x_7)))), (h0, .inr (9, [.ref p_bytes, .ref p_ts, .ref p_tc, .int n_ta, .int n_to, .int n_tl]))] at hD
    generalize upd f_bytes (Int32.toNatClampNeg n_ta) (vp_nar .byte x_7) = g_9 at hP hD
    refine lv_aload_n hx hb dX9_append_29 rfl (lv_at hl 1 rfl) ?_
    refine lv_dup hx hb dX9_append_30 rfl ?_
    refine va_get (D := (dC, dI)) (ci := 9) (v := .int n_ta) (C := RX9) (T := TX9) (N := 6) hx hb htb iX9 hown hK hP 1 rfl rfl 3 (Nat.le_of_ble_eq_true rfl) (htb _ m_239) (fun _ h9 => h9) rfl dX9_append_31 ?_
    refine lv_iconst (v := 1) hx hb dX9_append_34 (by decide) ?_
    refine lv_iadd hx hb dX9_append_35 ?_
    refine lv_topi (fun x_10 ex_11 => ?_)
    have t_12 : x_10.toInt = n_ta.toInt + (1 : Int) := i_add rfl (by decide) (lg_X9_append_2 n_ta n_to n_tl yq h_2) ex_11
    refine va_put (D := (dC, dI)) (ci := 9) (v := .int x_10) (C := RX9) (T := TX9) (N := 6) hx hb htb iX9 tyX9 tyX9_ok nmX9 hown hK hP hD hS 1 rfl rfl 3 (Nat.le_of_ble_eq_true rfl) (htb _ m_239) (fun _ h9 => h9) rfl (tyX9_ok 3 (Nat.le_of_ble_eq_true rfl)) rfl rfl (Nat.le_of_ble_eq_true rfl) dX9_append_36 ?_
    clear hP hD hS; intro H locs hP hD hS
    change va_P (dC, dI) vwCl [(p_bytes, .inl (k_bytes, 600, .inl g_9)), (h0, .inr (9, [.ref p_bytes, .ref p_ts, .ref p_tc, .int x_10, .int n_to, .int n_tl]))] H at hP
    change va_D A [(p_bytes, .inl (k_bytes, 600, .inl g_9)), (h0, .inr (9, [.ref p_bytes, .ref p_ts, .ref p_tc, .int x_10, .int n_to, .int n_tl]))] at hD
    refine lv_iinc (v := 16) (lv' := [(2, .int 16), (0, .ref h0), (1, .int v1)]) hx hb dX9_append_39 hl (k := 0) rfl (by decide) (by decide) rfl ?_
    clear hl; intro ls hl
    refine lv_goto (tgt := 12) hx hb dX9_append_42 (by decide) ?_
    refine lv_iload_n hx hb dX9_append_12 rfl (lv_at hl 0 rfl) ?_
    refine lv_if_lt (tgt := 45) hx hb dX9_append_13 (by decide) (fun c_13 => absurd c_13 (by decide)) ?_
    intro _
    refine lv_aload_n hx hb dX9_append_16 rfl (lv_at hl 1 rfl) ?_
    refine va_get (D := (dC, dI)) (ci := 9) (v := .ref p_bytes) (C := RX9) (T := TX9) (N := 6) hx hb htb iX9 hown hK hP 1 rfl rfl 0 (Nat.le_of_ble_eq_true rfl) (htb _ m_236) (fun _ h9 => h9) rfl dX9_append_17 ?_
    refine lv_aload_n hx hb dX9_append_20 rfl (lv_at hl 1 rfl) ?_
    refine va_get (D := (dC, dI)) (ci := 9) (v := .int x_10) (C := RX9) (T := TX9) (N := 6) hx hb htb iX9 hown hK hP 1 rfl rfl 3 (Nat.le_of_ble_eq_true rfl) (htb _ m_239) (fun _ h9 => h9) rfl dX9_append_21 ?_
    refine lv_iload_n hx hb dX9_append_24 rfl (lv_at hl 2 rfl) ?_
    refine lv_iload_n hx hb dX9_append_25 rfl (lv_at hl 0 rfl) ?_
    refine lv_iushr hx hb dX9_append_26 rfl ?_
    refine lv_topi (fun x_14 ex_15 => ?_)
    refine lv_i2b hx hb dX9_append_27 rfl ?_
    refine lv_topi (fun x_16 ex_17 => ?_)
    refine va_bast hx hb hK hP hD hS 0 0 rfl rfl (i_in rfl (lg_X9_append_3 n_ta n_to n_tl x_10 yq h_2 t_12)) dX9_append_28 ?_
    clear hP hD hS; intro H locs hP hD hS
    change va_P (dC, dI) vwCl [(p_bytes, .inl (k_bytes, 600, .inl (upd g_9 (Int32.toNatClampNeg x_10) (vp_nar .byte x_16)))), (h0, .inr (9, [.ref p_bytes, .ref p_ts, .ref p_tc, .int x_10, .int n_to, .int n_tl]))] H at hP
    change va_D A [(p_bytes, .inl (k_bytes, 600, .inl (upd g_9 (Int32.toNatClampNeg x_10) (vp_nar .byte x_16)))), (h0, .inr (9, [.ref p_bytes, .ref p_ts, .ref p_tc, .int x_10, .int n_to, .int n_tl]))] at hD
    generalize upd g_9 (Int32.toNatClampNeg x_10) (vp_nar .byte x_16) = g_18 at hP hD
    refine lv_aload_n hx hb dX9_append_29 rfl (lv_at hl 1 rfl) ?_
    refine lv_dup hx hb dX9_append_30 rfl ?_
    refine va_get (D := (dC, dI)) (ci := 9) (v := .int x_10) (C := RX9) (T := TX9) (N := 6) hx hb htb iX9 hown hK hP 1 rfl rfl 3 (Nat.le_of_ble_eq_true rfl) (htb _ m_239) (fun _ h9 => h9) rfl dX9_append_31 ?_
    refine lv_iconst (v := 1) hx hb dX9_append_34 (by decide) ?_
    refine lv_iadd hx hb dX9_append_35 ?_
    refine lv_topi (fun x_19 ex_20 => ?_)
    have t_21 : x_19.toInt = x_10.toInt + (1 : Int) := i_add rfl (by decide) (lg_X9_append_4 n_ta n_to n_tl x_10 yq h_2 t_12) ex_20
    refine va_put (D := (dC, dI)) (ci := 9) (v := .int x_19) (C := RX9) (T := TX9) (N := 6) hx hb htb iX9 tyX9 tyX9_ok nmX9 hown hK hP hD hS 1 rfl rfl 3 (Nat.le_of_ble_eq_true rfl) (htb _ m_239) (fun _ h9 => h9) rfl (tyX9_ok 3 (Nat.le_of_ble_eq_true rfl)) rfl rfl (Nat.le_of_ble_eq_true rfl) dX9_append_36 ?_
    clear hP hD hS; intro H locs hP hD hS
    change va_P (dC, dI) vwCl [(p_bytes, .inl (k_bytes, 600, .inl g_18)), (h0, .inr (9, [.ref p_bytes, .ref p_ts, .ref p_tc, .int x_19, .int n_to, .int n_tl]))] H at hP
    change va_D A [(p_bytes, .inl (k_bytes, 600, .inl g_18)), (h0, .inr (9, [.ref p_bytes, .ref p_ts, .ref p_tc, .int x_19, .int n_to, .int n_tl]))] at hD
    refine lv_iinc (v := 8) (lv' := [(2, .int 8), (0, .ref h0), (1, .int v1)]) hx hb dX9_append_39 hl (k := 0) rfl (by decide) (by decide) rfl ?_
    clear hl; intro ls hl
    refine lv_goto (tgt := 12) hx hb dX9_append_42 (by decide) ?_
    refine lv_iload_n hx hb dX9_append_12 rfl (lv_at hl 0 rfl) ?_
    refine lv_if_lt (tgt := 45) hx hb dX9_append_13 (by decide) (fun c_22 => absurd c_22 (by decide)) ?_
    intro _
    refine lv_aload_n hx hb dX9_append_16 rfl (lv_at hl 1 rfl) ?_
    refine va_get (D := (dC, dI)) (ci := 9) (v := .ref p_bytes) (C := RX9) (T := TX9) (N := 6) hx hb htb iX9 hown hK hP 1 rfl rfl 0 (Nat.le_of_ble_eq_true rfl) (htb _ m_236) (fun _ h9 => h9) rfl dX9_append_17 ?_
    refine lv_aload_n hx hb dX9_append_20 rfl (lv_at hl 1 rfl) ?_
    refine va_get (D := (dC, dI)) (ci := 9) (v := .int x_19) (C := RX9) (T := TX9) (N := 6) hx hb htb iX9 hown hK hP 1 rfl rfl 3 (Nat.le_of_ble_eq_true rfl) (htb _ m_239) (fun _ h9 => h9) rfl dX9_append_21 ?_
    refine lv_iload_n hx hb dX9_append_24 rfl (lv_at hl 2 rfl) ?_
    refine lv_iload_n hx hb dX9_append_25 rfl (lv_at hl 0 rfl) ?_
    refine lv_iushr hx hb dX9_append_26 rfl ?_
    refine lv_topi (fun x_23 ex_24 => ?_)
    refine lv_i2b hx hb dX9_append_27 rfl ?_
    refine lv_topi (fun x_25 ex_26 => ?_)
    refine va_bast hx hb hK hP hD hS 0 0 rfl rfl (i_in rfl (lg_X9_append_5 n_ta n_to n_tl x_10 x_19 yq h_2 t_12 t_21)) dX9_append_28 ?_
    clear hP hD hS; intro H locs hP hD hS
    change va_P (dC, dI) vwCl [(p_bytes, .inl (k_bytes, 600, .inl (upd g_18 (Int32.toNatClampNeg x_19) (vp_nar .byte x_25)))), (h0, .inr (9, [.ref p_bytes, .ref p_ts, .ref p_tc, .int x_19, .int n_to, .int n_tl]))] H at hP
    change va_D A [(p_bytes, .inl (k_bytes, 600, .inl (upd g_18 (Int32.toNatClampNeg x_19) (vp_nar .byte x_25)))), (h0, .inr (9, [.ref p_bytes, .ref p_ts, .ref p_tc, .int x_19, .int n_to, .int n_tl]))] at hD
    generalize upd g_18 (Int32.toNatClampNeg x_19) (vp_nar .byte x_25) = g_27 at hP hD
    refine lv_aload_n hx hb dX9_append_29 rfl (lv_at hl 1 rfl) ?_
    refine lv_dup hx hb dX9_append_30 rfl ?_
    refine va_get (D := (dC, dI)) (ci := 9) (v := .int x_19) (C := RX9) (T := TX9) (N := 6) hx hb htb iX9 hown hK hP 1 rfl rfl 3 (Nat.le_of_ble_eq_true rfl) (htb _ m_239) (fun _ h9 => h9) rfl dX9_append_31 ?_
    refine lv_iconst (v := 1) hx hb dX9_append_34 (by decide) ?_
    refine lv_iadd hx hb dX9_append_35 ?_
    refine lv_topi (fun x_28 ex_29 => ?_)
    have t_30 : x_28.toInt = x_19.toInt + (1 : Int) := i_add rfl (by decide) (lg_X9_append_6 n_ta n_to n_tl x_10 x_19 yq h_2 t_12 t_21) ex_29
    refine va_put (D := (dC, dI)) (ci := 9) (v := .int x_28) (C := RX9) (T := TX9) (N := 6) hx hb htb iX9 tyX9 tyX9_ok nmX9 hown hK hP hD hS 1 rfl rfl 3 (Nat.le_of_ble_eq_true rfl) (htb _ m_239) (fun _ h9 => h9) rfl (tyX9_ok 3 (Nat.le_of_ble_eq_true rfl)) rfl rfl (Nat.le_of_ble_eq_true rfl) dX9_append_36 ?_
    clear hP hD hS; intro H locs hP hD hS
    change va_P (dC, dI) vwCl [(p_bytes, .inl (k_bytes, 600, .inl g_27)), (h0, .inr (9, [.ref p_bytes, .ref p_ts, .ref p_tc, .int x_28, .int n_to, .int n_tl]))] H at hP
    change va_D A [(p_bytes, .inl (k_bytes, 600, .inl g_27)), (h0, .inr (9, [.ref p_bytes, .ref p_ts, .ref p_tc, .int x_28, .int n_to, .int n_tl]))] at hD
    refine lv_iinc (v := 0) (lv' := [(2, .int 0), (0, .ref h0), (1, .int v1)]) hx hb dX9_append_39 hl (k := 0) rfl (by decide) (by decide) rfl ?_
    clear hl; intro ls hl
    refine lv_goto (tgt := 12) hx hb dX9_append_42 (by decide) ?_
    refine lv_iload_n hx hb dX9_append_12 rfl (lv_at hl 0 rfl) ?_
    refine lv_if_lt (tgt := 45) hx hb dX9_append_13 (by decide) (fun c_31 => absurd c_31 (by decide)) ?_
    intro _
    refine lv_aload_n hx hb dX9_append_16 rfl (lv_at hl 1 rfl) ?_
    refine va_get (D := (dC, dI)) (ci := 9) (v := .ref p_bytes) (C := RX9) (T := TX9) (N := 6) hx hb htb iX9 hown hK hP 1 rfl rfl 0 (Nat.le_of_ble_eq_true rfl) (htb _ m_236) (fun _ h9 => h9) rfl dX9_append_17 ?_
    refine lv_aload_n hx hb dX9_append_20 rfl (lv_at hl 1 rfl) ?_
    refine va_get (D := (dC, dI)) (ci := 9) (v := .int x_28) (C := RX9) (T := TX9) (N := 6) hx hb htb iX9 hown hK hP 1 rfl rfl 3 (Nat.le_of_ble_eq_true rfl) (htb _ m_239) (fun _ h9 => h9) rfl dX9_append_21 ?_
    refine lv_iload_n hx hb dX9_append_24 rfl (lv_at hl 2 rfl) ?_
    refine lv_iload_n hx hb dX9_append_25 rfl (lv_at hl 0 rfl) ?_
    refine lv_iushr hx hb dX9_append_26 rfl ?_
    refine lv_topi (fun x_32 ex_33 => ?_)
    refine lv_i2b hx hb dX9_append_27 rfl ?_
    refine lv_topi (fun x_34 ex_35 => ?_)
    refine va_bast hx hb hK hP hD hS 0 0 rfl rfl (i_in rfl (lg_X9_append_7 n_ta n_to n_tl x_10 x_19 x_28 yq h_2 t_12 t_21 t_30)) dX9_append_28 ?_
    clear hP hD hS; intro H locs hP hD hS
    change va_P (dC, dI) vwCl [(p_bytes, .inl (k_bytes, 600, .inl (upd g_27 (Int32.toNatClampNeg x_28) (vp_nar .byte x_34)))), (h0, .inr (9, [.ref p_bytes, .ref p_ts, .ref p_tc, .int x_28, .int n_to, .int n_tl]))] H at hP
    change va_D A [(p_bytes, .inl (k_bytes, 600, .inl (upd g_27 (Int32.toNatClampNeg x_28) (vp_nar .byte x_34)))), (h0, .inr (9, [.ref p_bytes, .ref p_ts, .ref p_tc, .int x_28, .int n_to, .int n_tl]))] at hD
    generalize upd g_27 (Int32.toNatClampNeg x_28) (vp_nar .byte x_34) = g_36 at hP hD
    refine lv_aload_n hx hb dX9_append_29 rfl (lv_at hl 1 rfl) ?_
    refine lv_dup hx hb dX9_append_30 rfl ?_
    refine va_get (D := (dC, dI)) (ci := 9) (v := .int x_28) (C := RX9) (T := TX9) (N := 6) hx hb htb iX9 hown hK hP 1 rfl rfl 3 (Nat.le_of_ble_eq_true rfl) (htb _ m_239) (fun _ h9 => h9) rfl dX9_append_31 ?_
    refine lv_iconst (v := 1) hx hb dX9_append_34 (by decide) ?_
    refine lv_iadd hx hb dX9_append_35 ?_
    refine lv_topi (fun x_37 ex_38 => ?_)
    have t_39 : x_37.toInt = x_28.toInt + (1 : Int) := i_add rfl (by decide) (lg_X9_append_8 n_ta n_to n_tl x_10 x_19 x_28 yq h_2 t_12 t_21 t_30) ex_38
    refine va_put (D := (dC, dI)) (ci := 9) (v := .int x_37) (C := RX9) (T := TX9) (N := 6) hx hb htb iX9 tyX9 tyX9_ok nmX9 hown hK hP hD hS 1 rfl rfl 3 (Nat.le_of_ble_eq_true rfl) (htb _ m_239) (fun _ h9 => h9) rfl (tyX9_ok 3 (Nat.le_of_ble_eq_true rfl)) rfl rfl (Nat.le_of_ble_eq_true rfl) dX9_append_36 ?_
    clear hP hD hS; intro H locs hP hD hS
    change va_P (dC, dI) vwCl [(p_bytes, .inl (k_bytes, 600, .inl g_36)), (h0, .inr (9, [.ref p_bytes, .ref p_ts, .ref p_tc, .int x_37, .int n_to, .int n_tl]))] H at hP
    change va_D A [(p_bytes, .inl (k_bytes, 600, .inl g_36)), (h0, .inr (9, [.ref p_bytes, .ref p_ts, .ref p_tc, .int x_37, .int n_to, .int n_tl]))] at hD
    refine lv_iinc (v := (-8)) (lv' := [(2, .int (-8)), (0, .ref h0), (1, .int v1)]) hx hb dX9_append_39 hl (k := 0) rfl (by decide) (by decide) rfl ?_
    clear hl; intro ls hl
    refine lv_goto (tgt := 12) hx hb dX9_append_42 (by decide) ?_
    refine lv_iload_n hx hb dX9_append_12 rfl (lv_at hl 0 rfl) ?_
    refine lv_if_lt (tgt := 45) hx hb dX9_append_13 (by decide) ?_ (fun c_40 => absurd (by decide) c_40)
    intro _
    refine W.widen (k := 0) (n := 0) (Nat.le_of_ble_eq_true rfl) (Nat.le_of_ble_eq_true rfl) ?_
    have hP9 := hP.sub (ws' := [(h0, .inr (9, [.ref p_bytes, .ref p_ts, .ref p_tc, .int x_37, .int n_to, .int n_tl])), (p_bytes, .inl (k_bytes, 600, .inl g_36))]) [1, 0] rfl
    have hD9 := hD.sub (ws' := [(h0, .inr (9, [.ref p_bytes, .ref p_ts, .ref p_tc, .int x_37, .int n_to, .int n_tl])), (p_bytes, .inl (k_bytes, 600, .inl g_36))]) [1, 0] (by decide) rfl
    have hK9 := hK.sub (tys' := []) [] rfl
    exact W.vret hx hb hr (fun t ht hW => ⟨⟨(), rfl, trivial, ⟨x_37, g_36, (lg_X9_append_9 n_ta n_to n_tl x_10 x_19 x_28 x_37 yq h_2 t_12 t_21 t_30 t_39), by rw [ht]; exact hP9, va_K.moved hW.alike hK9, hD9⟩⟩, hS.F ht⟩) hS.2.2 dX9_append_45
  · refine lv_if_ne (tgt := 9) hx hb dX9_append_5 (by decide) (fun c_41 => absurd (by decide) c_41) ?_
    intro _
    refine W.widen (k := 0) (n := 0) (Nat.le_of_ble_eq_true rfl) (Nat.le_of_ble_eq_true rfl) ?_
    have hP9 := hP.sub (ws' := [(h0, .inr (9, [.ref p_bytes, .ref p_ts, .ref p_tc, .int n_ta, .int n_to, .int n_tl])), (p_bytes, .inl (k_bytes, 600, .inl f_bytes))]) [1, 0] rfl
    have hD9 := hD.sub (ws' := [(h0, .inr (9, [.ref p_bytes, .ref p_ts, .ref p_tc, .int n_ta, .int n_to, .int n_tl])), (p_bytes, .inl (k_bytes, 600, .inl f_bytes))]) [1, 0] (by decide) rfl
    have hK9 := hK.sub (tys' := []) [] rfl
    exact W.vret hx hb hr (fun t ht hW => ⟨⟨(), rfl, trivial, ⟨n_ta, f_bytes, (lg_X9_append_10 n_ta n_to n_tl yq h_2), by rw [ht]; exact hP9, va_K.moved hW.alike hK9, hD9⟩⟩, hS.F ht⟩) hS.2.2 dX9_append_8

theorem lg_X9_codeOf_0 (n_ta : Int32) (n_to : Int32) (n_tl : Int32) (v1 : Int32) (yq : 0 ≤ n_ta.toInt ∧ n_ta.toInt ≤ 600 ∧ 0 ≤ n_to.toInt ∧ n_to.toInt ≤ 600 ∧ 0 ≤ n_tl.toInt ∧ n_tl.toInt ≤ 600) (t_2 : v1.toInt < (0 : Int)) : True := by
  have := rg_rng n_ta; have := rg_rng n_to; have := rg_rng n_tl; have := rg_rng v1; trivial
theorem lg_X9_codeOf_1 (n_ta : Int32) (n_to : Int32) (n_tl : Int32) (v1 : Int32) (yq : 0 ≤ n_ta.toInt ∧ n_ta.toInt ≤ 600 ∧ 0 ≤ n_to.toInt ∧ n_to.toInt ≤ 600 ∧ 0 ≤ n_tl.toInt ∧ n_tl.toInt ≤ 600) (t_2 : (0 : Int) ≤ v1.toInt) (t_4 : n_to.toInt ≤ v1.toInt) : True := by
  have := rg_rng n_ta; have := rg_rng n_to; have := rg_rng n_tl; have := rg_rng v1; trivial
theorem lg_X9_codeOf_2 (n_ta : Int32) (n_to : Int32) (n_tl : Int32) (v1 : Int32) (yq : 0 ≤ n_ta.toInt ∧ n_ta.toInt ≤ 600 ∧ 0 ≤ n_to.toInt ∧ n_to.toInt ≤ 600 ∧ 0 ≤ n_tl.toInt ∧ n_tl.toInt ≤ 600) (t_2 : (0 : Int) ≤ v1.toInt) (t_4 : v1.toInt < n_to.toInt) : 0 ≤ v1.toInt ∧ v1.toInt < ((600 : Nat) : Int) := by
  have := rg_rng n_ta; have := rg_rng n_to; have := rg_rng n_tl; have := rg_rng v1; omega
theorem lg_X9_codeOf_3 (n_ta : Int32) (n_to : Int32) (n_tl : Int32) (v1 : Int32) (yq : 0 ≤ n_ta.toInt ∧ n_ta.toInt ≤ 600 ∧ 0 ≤ n_to.toInt ∧ n_to.toInt ≤ 600 ∧ 0 ≤ n_tl.toInt ∧ n_tl.toInt ≤ 600) (t_2 : (0 : Int) ≤ v1.toInt) (t_4 : v1.toInt < n_to.toInt) : True := by
  have := rg_rng n_ta; have := rg_rng n_to; have := rg_rng n_tl; have := rg_rng v1; trivial
set_option maxHeartbeats 4000000 in
set_option maxRecDepth 100000 in
theorem kX9_codeOf (l : Launch) (dC : Nat → ClassId) (dI : Nat → Nat → Nat) (sz : Nat) (h0 : Nat) (p_bytes : Nat) (p_ts : Nat) (p_tc : Nat) (n_ta : Int32) (n_to : Int32) (n_tl : Int32) (k_tc : ClassId) (f_tc : Nat → Int32) (v1 : Int32) (yq : 0 ≤ n_ta.toInt ∧ n_ta.toInt ≤ 600 ∧ 0 ≤ n_to.toInt ∧ n_to.toInt ≤ 600 ∧ 0 ≤ n_tl.toInt ∧ n_tl.toInt ≤ 600) : Met l yX9_codeOf (Cond.code yX9_codeOf cX9_codeOf 2 (some .int) :: bg) ({ frames := 0, cells := 0, slots := 0, locals := 0 }) (pcW dC dI [.ref h0, .int v1] sz [(h0, .inr (9, [.ref p_bytes, .ref p_ts, .ref p_tc, .int n_ta, .int n_to, .int n_tl])), (p_tc, .inl (k_tc, 600, .inl f_tc))] [(k_tc, .int)]) (va_Qi (fun (r : Int32) (u : Unit) => True) (fun (u : Unit) (t : State) => va_P (dC, dI) vwCl [(h0, .inr (9, [.ref p_bytes, .ref p_ts, .ref p_tc, .int n_ta, .int n_to, .int n_tl])), (p_tc, .inl (k_tc, 600, .inl f_tc))] t.heap ∧ va_K (dC, dI) vwCl [(k_tc, .int)] t ∧ va_D (va_A [(h0, .inr (9, [.ref p_bytes, .ref p_ts, .ref p_tc, .int n_ta, .int n_to, .int n_tl])), (p_tc, .inl (k_tc, 600, .inl f_tc))] sz) [(h0, .inr (9, [.ref p_bytes, .ref p_ts, .ref p_tc, .int n_ta, .int n_to, .int n_tl])), (p_tc, .inl (k_tc, 600, .inl f_tc))]) (va_A [(h0, .inr (9, [.ref p_bytes, .ref p_ts, .ref p_tc, .int n_ta, .int n_to, .int n_tl])), (p_tc, .inl (k_tc, 600, .inl f_tc))] sz)) 0 0 (va_A [(h0, .inr (9, [.ref p_bytes, .ref p_ts, .ref p_tc, .int n_ta, .int n_to, .int n_tl])), (p_tc, .inl (k_tc, 600, .inl f_tc))] sz) := by
  refine Met.ofW (cc := cX9_codeOf) (maxL := 2) (ret := (some .int)) pnX9 rfl ?_
  intro p e s m args below meth c s₁ B hml hv
  obtain ⟨rfl, hsz, hP, hK, hD0, hN⟩ := hv
  have hx := B.exec
  have hb := B.bytes
  have hr := B.returns
  have htb : ∀ w ∈ bg, w.before [.ref h0, .int v1].toArray s = true := fun w h => atoms_spec (ws := Cond.code yX9_codeOf cX9_codeOf 2 (some .int) :: bg) B.pre w (List.mem_cons_of_mem _ h)
  have hown : s.vm.findClass RX9 = some m.cls := findClass_of_methodNamed B.named
  have hlocks := B.notSynchronized
  subst hsz
  have hD := hD0.self (sz := s.heap.size)
  generalize hAe : va_A [(h0, .inr (9, [.ref p_bytes, .ref p_ts, .ref p_tc, .int n_ta, .int n_to, .int n_tl])), (p_tc, .inl (k_tc, 600, .inl f_tc))] s.heap.size = A at hD ⊢
  have hA : ∀ q : Nat, s.heap.size ≤ q → A q := fun q h => by rw [← hAe]; exact Or.inr h
  have hS : va_S A s.heap s.heap [] := va_S.rf
  have hl := lv_entry ([.ref h0, .int v1]) (n := 2) (Nat.le_of_ble_eq_true rfl)
  rw [lg_entry_eq]
  generalize (lg_sl ([.ref h0, .int v1]) ++ List.replicate (2 - (lg_sl ([.ref h0, .int v1])).length) Slot.unset).toArray = ls at hl ⊢
  change lv_has ls 2 [(0, .ref h0), (1, .int v1)] at hl
  clear hD0 hAe
  refine go0 (wsP := fun H => va_P (dC, dI) vwCl [(h0, .inr (9, [.ref p_bytes, .ref p_ts, .ref p_tc, .int n_ta, .int n_to, .int n_tl])), (p_tc, .inl (k_tc, 600, .inl f_tc))] H) hP hS ?_
  clear hP hS; intro H locs hP hS
  change va_P (dC, dI) vwCl [(h0, .inr (9, [.ref p_bytes, .ref p_ts, .ref p_tc, .int n_ta, .int n_to, .int n_tl])), (p_tc, .inl (k_tc, 600, .inl f_tc))] H at hP
  refine lv_iload_n hx hb dX9_codeOf_0 rfl (lv_at hl 1 rfl) ?_
  refine lv_if_lt (tgt := 21) hx hb dX9_codeOf_1 (by decide) (fun c_1 => ?_) (fun c_1 => ?_)
  · have t_2 : v1.toInt < (0 : Int) := i_lt rfl (by decide) c_1
    refine lv_iconst (v := (-1)) hx hb dX9_codeOf_21 (by decide) ?_
    refine W.widen (k := 0) (n := 0) (Nat.le_of_ble_eq_true rfl) (Nat.le_of_ble_eq_true rfl) ?_
    have hP9 := hP.sub (ws' := [(h0, .inr (9, [.ref p_bytes, .ref p_ts, .ref p_tc, .int n_ta, .int n_to, .int n_tl])), (p_tc, .inl (k_tc, 600, .inl f_tc))]) [0, 1] rfl
    have hD9 := hD.sub (ws' := [(h0, .inr (9, [.ref p_bytes, .ref p_ts, .ref p_tc, .int n_ta, .int n_to, .int n_tl])), (p_tc, .inl (k_tc, 600, .inl f_tc))]) [0, 1] (by decide) rfl
    have hK9 := hK.sub (tys' := [(k_tc, .int)]) [0] rfl
    exact W.iret (v := (-1)) hx hb hr (fun t ht hW => ⟨⟨(-1), (), rfl, (lg_X9_codeOf_0 n_ta n_to n_tl v1 yq t_2), ⟨by rw [ht]; exact hP9, va_K.moved hW.alike hK9, hD9⟩⟩, hS.F ht⟩) hS.2.2 dX9_codeOf_22
  · have t_2 : (0 : Int) ≤ v1.toInt := i_nlt rfl (by decide) c_1
    refine lv_iload_n hx hb dX9_codeOf_4 rfl (lv_at hl 1 rfl) ?_
    refine lv_aload_n hx hb dX9_codeOf_5 rfl (lv_at hl 0 rfl) ?_
    refine va_get (D := (dC, dI)) (ci := 9) (v := .int n_to) (C := RX9) (T := TX9) (N := 6) hx hb htb iX9 hown hK hP 0 rfl rfl 4 (Nat.le_of_ble_eq_true rfl) (htb _ m_241) (fun _ h9 => h9) rfl dX9_codeOf_6 ?_
    refine lv_icmp_ge (tgt := 21) hx hb dX9_codeOf_9 (by decide) (fun c_3 => ?_) (fun c_3 => ?_)
    · have t_4 : n_to.toInt ≤ v1.toInt := i_le rfl rfl c_3
      refine lv_iconst (v := (-1)) hx hb dX9_codeOf_21 (by decide) ?_
      refine W.widen (k := 0) (n := 0) (Nat.le_of_ble_eq_true rfl) (Nat.le_of_ble_eq_true rfl) ?_
      have hP9 := hP.sub (ws' := [(h0, .inr (9, [.ref p_bytes, .ref p_ts, .ref p_tc, .int n_ta, .int n_to, .int n_tl])), (p_tc, .inl (k_tc, 600, .inl f_tc))]) [0, 1] rfl
      have hD9 := hD.sub (ws' := [(h0, .inr (9, [.ref p_bytes, .ref p_ts, .ref p_tc, .int n_ta, .int n_to, .int n_tl])), (p_tc, .inl (k_tc, 600, .inl f_tc))]) [0, 1] (by decide) rfl
      have hK9 := hK.sub (tys' := [(k_tc, .int)]) [0] rfl
      exact W.iret (v := (-1)) hx hb hr (fun t ht hW => ⟨⟨(-1), (), rfl, (lg_X9_codeOf_1 n_ta n_to n_tl v1 yq t_2 t_4), ⟨by rw [ht]; exact hP9, va_K.moved hW.alike hK9, hD9⟩⟩, hS.F ht⟩) hS.2.2 dX9_codeOf_22
    · have t_4 : v1.toInt < n_to.toInt := i_nle rfl rfl c_3
      refine lv_aload_n hx hb dX9_codeOf_12 rfl (lv_at hl 0 rfl) ?_
      refine va_get (D := (dC, dI)) (ci := 9) (v := .ref p_tc) (C := RX9) (T := TX9) (N := 6) hx hb htb iX9 hown hK hP 0 rfl rfl 2 (Nat.le_of_ble_eq_true rfl) (htb _ m_238) (fun _ h9 => h9) rfl dX9_codeOf_13 ?_
      refine lv_iload_n hx hb dX9_codeOf_16 rfl (lv_at hl 1 rfl) ?_
      refine va_iald hx hb hK hP 1 0 rfl rfl (i_in rfl (lg_X9_codeOf_2 n_ta n_to n_tl v1 yq t_2 t_4)) dX9_codeOf_17 ?_
      refine lv_topi (fun x_5 ex_6 => ?_)
      refine lv_goto (tgt := 22) hx hb dX9_codeOf_18 (by decide) ?_
      refine W.widen (k := 0) (n := 0) (Nat.le_of_ble_eq_true rfl) (Nat.le_of_ble_eq_true rfl) ?_
      have hP9 := hP.sub (ws' := [(h0, .inr (9, [.ref p_bytes, .ref p_ts, .ref p_tc, .int n_ta, .int n_to, .int n_tl])), (p_tc, .inl (k_tc, 600, .inl f_tc))]) [0, 1] rfl
      have hD9 := hD.sub (ws' := [(h0, .inr (9, [.ref p_bytes, .ref p_ts, .ref p_tc, .int n_ta, .int n_to, .int n_tl])), (p_tc, .inl (k_tc, 600, .inl f_tc))]) [0, 1] (by decide) rfl
      have hK9 := hK.sub (tys' := [(k_tc, .int)]) [0] rfl
      exact W.iret (v := x_5) hx hb hr (fun t ht hW => ⟨⟨x_5, (), rfl, (lg_X9_codeOf_3 n_ta n_to n_tl v1 yq t_2 t_4), ⟨by rw [ht]; exact hP9, va_K.moved hW.alike hK9, hD9⟩⟩, hS.F ht⟩) hS.2.2 dX9_codeOf_22

theorem lg_X9_placeOf_0 (n_ta : Int32) (n_to : Int32) (n_tl : Int32) (v1 : Int32) (yq : 0 ≤ n_ta.toInt ∧ n_ta.toInt ≤ 600 ∧ 0 ≤ n_to.toInt ∧ n_to.toInt ≤ 600 ∧ 0 ≤ n_tl.toInt ∧ n_tl.toInt ≤ 600) (h_2 : 0 ≤ v1.toInt ∧ v1.toInt < n_to.toInt) : 0 ≤ v1.toInt ∧ v1.toInt < ((600 : Nat) : Int) := by
  have := rg_rng n_ta; have := rg_rng n_to; have := rg_rng n_tl; have := rg_rng v1; omega
theorem lg_X9_placeOf_1 (n_ta : Int32) (n_to : Int32) (n_tl : Int32) (v1 : Int32) (yq : 0 ≤ n_ta.toInt ∧ n_ta.toInt ≤ 600 ∧ 0 ≤ n_to.toInt ∧ n_to.toInt ≤ 600 ∧ 0 ≤ n_tl.toInt ∧ n_tl.toInt ≤ 600) (h_2 : 0 ≤ v1.toInt ∧ v1.toInt < n_to.toInt) : True := by
  have := rg_rng n_ta; have := rg_rng n_to; have := rg_rng n_tl; have := rg_rng v1; trivial
theorem lg_X9_placeOf_2 (n_ta : Int32) (n_to : Int32) (n_tl : Int32) (v1 : Int32) (yq : 0 ≤ n_ta.toInt ∧ n_ta.toInt ≤ 600 ∧ 0 ≤ n_to.toInt ∧ n_to.toInt ≤ 600 ∧ 0 ≤ n_tl.toInt ∧ n_tl.toInt ≤ 600) (h_2 : ¬ (0 ≤ v1.toInt ∧ v1.toInt < n_to.toInt)) : True := by
  have := rg_rng n_ta; have := rg_rng n_to; have := rg_rng n_tl; have := rg_rng v1; trivial
set_option maxHeartbeats 4000000 in
set_option maxRecDepth 100000 in
theorem kX9_placeOf (l : Launch) (dC : Nat → ClassId) (dI : Nat → Nat → Nat) (sz : Nat) (h0 : Nat) (p_bytes : Nat) (p_ts : Nat) (p_tc : Nat) (n_ta : Int32) (n_to : Int32) (n_tl : Int32) (k_ts : ClassId) (f_ts : Nat → Int32) (v1 : Int32) (yq : 0 ≤ n_ta.toInt ∧ n_ta.toInt ≤ 600 ∧ 0 ≤ n_to.toInt ∧ n_to.toInt ≤ 600 ∧ 0 ≤ n_tl.toInt ∧ n_tl.toInt ≤ 600) : Met l yX9_placeOf (Cond.code yX9_placeOf cX9_placeOf 2 (some .int) :: bg) ({ frames := 1, cells := 0, slots := 0, locals := 21 }) (pcW dC dI [.ref h0, .int v1] sz [(h0, .inr (9, [.ref p_bytes, .ref p_ts, .ref p_tc, .int n_ta, .int n_to, .int n_tl])), (p_ts, .inl (k_ts, 600, .inl f_ts))] [(k_ts, .int)]) (va_Qi (fun (r : Int32) (u : Unit) => True) (fun (u : Unit) (t : State) => va_P (dC, dI) vwCl [(h0, .inr (9, [.ref p_bytes, .ref p_ts, .ref p_tc, .int n_ta, .int n_to, .int n_tl])), (p_ts, .inl (k_ts, 600, .inl f_ts))] t.heap ∧ va_K (dC, dI) vwCl [(k_ts, .int)] t ∧ va_D (va_A [(h0, .inr (9, [.ref p_bytes, .ref p_ts, .ref p_tc, .int n_ta, .int n_to, .int n_tl])), (p_ts, .inl (k_ts, 600, .inl f_ts))] sz) [(h0, .inr (9, [.ref p_bytes, .ref p_ts, .ref p_tc, .int n_ta, .int n_to, .int n_tl])), (p_ts, .inl (k_ts, 600, .inl f_ts))]) (va_A [(h0, .inr (9, [.ref p_bytes, .ref p_ts, .ref p_tc, .int n_ta, .int n_to, .int n_tl])), (p_ts, .inl (k_ts, 600, .inl f_ts))] sz)) 0 0 (va_A [(h0, .inr (9, [.ref p_bytes, .ref p_ts, .ref p_tc, .int n_ta, .int n_to, .int n_tl])), (p_ts, .inl (k_ts, 600, .inl f_ts))] sz) := by
  refine Met.ofW (cc := cX9_placeOf) (maxL := 2) (ret := (some .int)) pnX9 rfl ?_
  intro p e s m args below meth c s₁ B hml hv
  obtain ⟨rfl, hsz, hP, hK, hD0, hN⟩ := hv
  have hx := B.exec
  have hb := B.bytes
  have hr := B.returns
  have htb : ∀ w ∈ bg, w.before [.ref h0, .int v1].toArray s = true := fun w h => atoms_spec (ws := Cond.code yX9_placeOf cX9_placeOf 2 (some .int) :: bg) B.pre w (List.mem_cons_of_mem _ h)
  have hown : s.vm.findClass RX9 = some m.cls := findClass_of_methodNamed B.named
  have hlocks := B.notSynchronized
  subst hsz
  have hD := hD0.self (sz := s.heap.size)
  generalize hAe : va_A [(h0, .inr (9, [.ref p_bytes, .ref p_ts, .ref p_tc, .int n_ta, .int n_to, .int n_tl])), (p_ts, .inl (k_ts, 600, .inl f_ts))] s.heap.size = A at hD ⊢
  have hA : ∀ q : Nat, s.heap.size ≤ q → A q := fun q h => by rw [← hAe]; exact Or.inr h
  have hS : va_S A s.heap s.heap [] := va_S.rf
  have hl := lv_entry ([.ref h0, .int v1]) (n := 2) (Nat.le_of_ble_eq_true rfl)
  rw [lg_entry_eq]
  generalize (lg_sl ([.ref h0, .int v1]) ++ List.replicate (2 - (lg_sl ([.ref h0, .int v1])).length) Slot.unset).toArray = ls at hl ⊢
  change lv_has ls 2 [(0, .ref h0), (1, .int v1)] at hl
  clear hD0 hAe
  refine go0 (wsP := fun H => va_P (dC, dI) vwCl [(h0, .inr (9, [.ref p_bytes, .ref p_ts, .ref p_tc, .int n_ta, .int n_to, .int n_tl])), (p_ts, .inl (k_ts, 600, .inl f_ts))] H) hP hS ?_
  clear hP hS; intro H locs hP hS
  change va_P (dC, dI) vwCl [(h0, .inr (9, [.ref p_bytes, .ref p_ts, .ref p_tc, .int n_ta, .int n_to, .int n_tl])), (p_ts, .inl (k_ts, 600, .inl f_ts))] H at hP
  refine lv_aload_n hx hb dX9_placeOf_0 rfl (lv_at hl 0 rfl) ?_
  refine lv_iload_n hx hb dX9_placeOf_1 rfl (lv_at hl 1 rfl) ?_
  have hPc := hP.sub (ws' := [(h0, .inr (9, [.ref p_bytes, .ref p_ts, .ref p_tc, .int n_ta, .int n_to, .int n_tl]))]) [0] rfl
  have hDc := hD.sub (ws' := [(h0, .inr (9, [.ref p_bytes, .ref p_ts, .ref p_tc, .int n_ta, .int n_to, .int n_tl]))]) [0] (by decide) rfl
  have hKc := hK.sub (tys' := []) [] rfl
  have hFc := va_free (wc := [(h0, .inr (9, [.ref p_bytes, .ref p_ts, .ref p_tc, .int n_ta, .int n_to, .int n_tl]))]) hD hS hA [0] rfl
  refine va_calli (va_runV (C := RX9) (As := [.int v1]) (rest := []) ⟨hx, hb, hml, hown, htb⟩ (kX9_hasToken l dC dI H.size h0 p_bytes p_ts p_tc n_ta n_to n_tl v1 ) ⟨callB_of 1 htb (gd_c m_914) rfl rfl rfl (htb _ m_10) (htb _ m_968) hdX9_hasToken ⟨(Nat.le_of_ble_eq_true rfl), (Nat.le_of_ble_eq_true rfl)⟩, htb _ m_912, htb _ m_913⟩ ⟨pcW_blind, va_recv hKc hPc (ci := 9) (q0 := 0) rfl rfl, pcW_at hPc hKc hDc hN⟩ rfl rfl hl.1 rfl (lv_room (Nat.le_of_ble_eq_true rfl)) dX9_placeOf_2 ⟨(Nat.le_of_ble_eq_true rfl), (Nat.le_of_ble_eq_true rfl)⟩) hS (fun q _ h => hFc q h) hFc (fun r_1 u t H1 locs1 ht hvm h_2 hB hz1 hk1 hS1 => ?_)
  obtain ⟨hP1, hK1, hD1⟩ := hB
  rw [ht] at hP1
  obtain ⟨hPn, hDn⟩ := va_join (wr := [(p_ts, .inl (k_ts, 600, .inl f_ts))]) (w1 := [(h0, .inr (9, [.ref p_bytes, .ref p_ts, .ref p_tc, .int n_ta, .int n_to, .int n_tl]))]) hP hD [0] [1] rfl rfl (by decide) (by decide) hk1 hFc hP1 hD1
  clear hP1 hD1 hK1
  clear hP hD hS hPc hDc hKc hFc hk1 hz1 ht hvm
  clear t
  revert hS1 hPn hDn; generalize H1 = H; generalize locs1 = locs; intro hS hP hD
  change va_P (dC, dI) vwCl [(p_ts, .inl (k_ts, 600, .inl f_ts)), (h0, .inr (9, [.ref p_bytes, .ref p_ts, .ref p_tc, .int n_ta, .int n_to, .int n_tl]))] H at hP
  change va_D A [(p_ts, .inl (k_ts, 600, .inl f_ts)), (h0, .inr (9, [.ref p_bytes, .ref p_ts, .ref p_tc, .int n_ta, .int n_to, .int n_tl]))] at hD
  rcases h_2 with ⟨rfl, h_2⟩ | ⟨rfl, h_2⟩
  · refine lv_if_eq (tgt := 17) hx hb dX9_placeOf_5 (by decide) (fun c_3 => absurd c_3 (by decide)) ?_
    intro _
    refine lv_aload_n hx hb dX9_placeOf_8 rfl (lv_at hl 0 rfl) ?_
    refine va_get (D := (dC, dI)) (ci := 9) (v := .ref p_ts) (C := RX9) (T := TX9) (N := 6) hx hb htb iX9 hown hK hP 1 rfl rfl 1 (Nat.le_of_ble_eq_true rfl) (htb _ m_237) (fun _ h9 => h9) rfl dX9_placeOf_9 ?_
    refine lv_iload_n hx hb dX9_placeOf_12 rfl (lv_at hl 1 rfl) ?_
    refine va_iald hx hb hK hP 0 0 rfl rfl (i_in rfl (lg_X9_placeOf_0 n_ta n_to n_tl v1 yq h_2)) dX9_placeOf_13 ?_
    refine lv_topi (fun x_4 ex_5 => ?_)
    refine lv_goto (tgt := 21) hx hb dX9_placeOf_14 (by decide) ?_
    refine W.widen (k := 0) (n := 0) (Nat.le_of_ble_eq_true rfl) (Nat.le_of_ble_eq_true rfl) ?_
    have hP9 := hP.sub (ws' := [(h0, .inr (9, [.ref p_bytes, .ref p_ts, .ref p_tc, .int n_ta, .int n_to, .int n_tl])), (p_ts, .inl (k_ts, 600, .inl f_ts))]) [1, 0] rfl
    have hD9 := hD.sub (ws' := [(h0, .inr (9, [.ref p_bytes, .ref p_ts, .ref p_tc, .int n_ta, .int n_to, .int n_tl])), (p_ts, .inl (k_ts, 600, .inl f_ts))]) [1, 0] (by decide) rfl
    have hK9 := hK.sub (tys' := [(k_ts, .int)]) [0] rfl
    exact W.iret (v := x_4) hx hb hr (fun t ht hW => ⟨⟨x_4, (), rfl, (lg_X9_placeOf_1 n_ta n_to n_tl v1 yq h_2), ⟨by rw [ht]; exact hP9, va_K.moved hW.alike hK9, hD9⟩⟩, hS.F ht⟩) hS.2.2 dX9_placeOf_21
  · refine lv_if_eq (tgt := 17) hx hb dX9_placeOf_5 (by decide) ?_ (fun c_6 => absurd (by decide) c_6)
    intro _
    refine lv_aload_n hx hb dX9_placeOf_17 rfl (lv_at hl 0 rfl) ?_
    refine va_get (D := (dC, dI)) (ci := 9) (v := .int n_tl) (C := RX9) (T := TX9) (N := 6) hx hb htb iX9 hown hK hP 1 rfl rfl 5 (Nat.le_of_ble_eq_true rfl) (htb _ m_242) (fun _ h9 => h9) rfl dX9_placeOf_18 ?_
    refine W.widen (k := 0) (n := 0) (Nat.le_of_ble_eq_true rfl) (Nat.le_of_ble_eq_true rfl) ?_
    have hP9 := hP.sub (ws' := [(h0, .inr (9, [.ref p_bytes, .ref p_ts, .ref p_tc, .int n_ta, .int n_to, .int n_tl])), (p_ts, .inl (k_ts, 600, .inl f_ts))]) [1, 0] rfl
    have hD9 := hD.sub (ws' := [(h0, .inr (9, [.ref p_bytes, .ref p_ts, .ref p_tc, .int n_ta, .int n_to, .int n_tl])), (p_ts, .inl (k_ts, 600, .inl f_ts))]) [1, 0] (by decide) rfl
    have hK9 := hK.sub (tys' := [(k_ts, .int)]) [0] rfl
    exact W.iret (v := n_tl) hx hb hr (fun t ht hW => ⟨⟨n_tl, (), rfl, (lg_X9_placeOf_2 n_ta n_to n_tl v1 yq h_2), ⟨by rw [ht]; exact hP9, va_K.moved hW.alike hK9, hD9⟩⟩, hS.F ht⟩) hS.2.2 dX9_placeOf_21

theorem lg_X9_kindAt_0 (n_ta : Int32) (n_to : Int32) (n_tl : Int32) (v1 : Int32) (yq : 0 ≤ n_ta.toInt ∧ n_ta.toInt ≤ 600 ∧ 0 ≤ n_to.toInt ∧ n_to.toInt ≤ 600 ∧ 0 ≤ n_tl.toInt ∧ n_tl.toInt ≤ 600) (t_2 : v1.toInt < (0 : Int)) : 0 ≤ (3 : Int) ∧ (3 : Int) ≤ 3 := by
  have := rg_rng n_ta; have := rg_rng n_to; have := rg_rng n_tl; have := rg_rng v1; omega
theorem lg_X9_kindAt_1 (n_ta : Int32) (n_to : Int32) (n_tl : Int32) (v1 : Int32) (yq : 0 ≤ n_ta.toInt ∧ n_ta.toInt ≤ 600 ∧ 0 ≤ n_to.toInt ∧ n_to.toInt ≤ 600 ∧ 0 ≤ n_tl.toInt ∧ n_tl.toInt ≤ 600) (t_2 : (0 : Int) ≤ v1.toInt) (t_5 : n_tl.toInt ≤ v1.toInt) : 0 ≤ (3 : Int) ∧ (3 : Int) ≤ 3 := by
  have := rg_rng n_ta; have := rg_rng n_to; have := rg_rng n_tl; have := rg_rng v1; omega
theorem lg_X9_kindAt_2 (n_ta : Int32) (n_to : Int32) (n_tl : Int32) (v1 : Int32) (yq : 0 ≤ n_ta.toInt ∧ n_ta.toInt ≤ 600 ∧ 0 ≤ n_to.toInt ∧ n_to.toInt ≤ 600 ∧ 0 ≤ n_tl.toInt ∧ n_tl.toInt ≤ 600) (t_2 : (0 : Int) ≤ v1.toInt) (t_5 : v1.toInt < n_tl.toInt) : 0 ≤ v1.toInt ∧ v1.toInt < ((600 : Nat) : Int) := by
  have := rg_rng n_ta; have := rg_rng n_to; have := rg_rng n_tl; have := rg_rng v1; omega
theorem lg_X9_kindAt_3 (n_ta : Int32) (n_to : Int32) (n_tl : Int32) (v1 : Int32) (x_7 : Int32) (yq : 0 ≤ n_ta.toInt ∧ n_ta.toInt ≤ 600 ∧ 0 ≤ n_to.toInt ∧ n_to.toInt ≤ 600 ∧ 0 ≤ n_tl.toInt ∧ n_tl.toInt ≤ 600) (t_2 : (0 : Int) ≤ v1.toInt) (t_5 : v1.toInt < n_tl.toInt) (t_10 : x_7.toInt = (32 : Int)) : 0 ≤ (3 : Int) ∧ (3 : Int) ≤ 3 := by
  have := rg_rng n_ta; have := rg_rng n_to; have := rg_rng n_tl; have := rg_rng v1; have := rg_rng x_7; omega
theorem lg_X9_kindAt_4 (n_ta : Int32) (n_to : Int32) (n_tl : Int32) (v1 : Int32) (x_7 : Int32) (yq : 0 ≤ n_ta.toInt ∧ n_ta.toInt ≤ 600 ∧ 0 ≤ n_to.toInt ∧ n_to.toInt ≤ 600 ∧ 0 ≤ n_tl.toInt ∧ n_tl.toInt ≤ 600) (t_2 : (0 : Int) ≤ v1.toInt) (t_5 : v1.toInt < n_tl.toInt) (t_10 : ¬ x_7.toInt = (32 : Int)) (t_12 : ¬ x_7.toInt = (10 : Int)) (t_14 : x_7.toInt < (97 : Int)) (t_16 : x_7.toInt < (48 : Int)) : 0 ≤ (2 : Int) ∧ (2 : Int) ≤ 3 := by
  have := rg_rng n_ta; have := rg_rng n_to; have := rg_rng n_tl; have := rg_rng v1; have := rg_rng x_7; omega
theorem lg_X9_kindAt_5 (n_ta : Int32) (n_to : Int32) (n_tl : Int32) (v1 : Int32) (x_7 : Int32) (yq : 0 ≤ n_ta.toInt ∧ n_ta.toInt ≤ 600 ∧ 0 ≤ n_to.toInt ∧ n_to.toInt ≤ 600 ∧ 0 ≤ n_tl.toInt ∧ n_tl.toInt ≤ 600) (t_2 : (0 : Int) ≤ v1.toInt) (t_5 : v1.toInt < n_tl.toInt) (t_10 : ¬ x_7.toInt = (32 : Int)) (t_12 : ¬ x_7.toInt = (10 : Int)) (t_14 : x_7.toInt < (97 : Int)) (t_16 : (48 : Int) ≤ x_7.toInt) (t_18 : (57 : Int) < x_7.toInt) : 0 ≤ (2 : Int) ∧ (2 : Int) ≤ 3 := by
  have := rg_rng n_ta; have := rg_rng n_to; have := rg_rng n_tl; have := rg_rng v1; have := rg_rng x_7; omega
theorem lg_X9_kindAt_6 (n_ta : Int32) (n_to : Int32) (n_tl : Int32) (v1 : Int32) (x_7 : Int32) (yq : 0 ≤ n_ta.toInt ∧ n_ta.toInt ≤ 600 ∧ 0 ≤ n_to.toInt ∧ n_to.toInt ≤ 600 ∧ 0 ≤ n_tl.toInt ∧ n_tl.toInt ≤ 600) (t_2 : (0 : Int) ≤ v1.toInt) (t_5 : v1.toInt < n_tl.toInt) (t_10 : ¬ x_7.toInt = (32 : Int)) (t_12 : ¬ x_7.toInt = (10 : Int)) (t_14 : x_7.toInt < (97 : Int)) (t_16 : (48 : Int) ≤ x_7.toInt) (t_18 : x_7.toInt ≤ (57 : Int)) : 0 ≤ (1 : Int) ∧ (1 : Int) ≤ 3 := by
  have := rg_rng n_ta; have := rg_rng n_to; have := rg_rng n_tl; have := rg_rng v1; have := rg_rng x_7; omega
theorem lg_X9_kindAt_7 (n_ta : Int32) (n_to : Int32) (n_tl : Int32) (v1 : Int32) (x_7 : Int32) (yq : 0 ≤ n_ta.toInt ∧ n_ta.toInt ≤ 600 ∧ 0 ≤ n_to.toInt ∧ n_to.toInt ≤ 600 ∧ 0 ≤ n_tl.toInt ∧ n_tl.toInt ≤ 600) (t_2 : (0 : Int) ≤ v1.toInt) (t_5 : v1.toInt < n_tl.toInt) (t_10 : ¬ x_7.toInt = (32 : Int)) (t_12 : ¬ x_7.toInt = (10 : Int)) (t_14 : (97 : Int) ≤ x_7.toInt) (t_20 : (122 : Int) < x_7.toInt) (t_22 : x_7.toInt < (48 : Int)) : 0 ≤ (2 : Int) ∧ (2 : Int) ≤ 3 := by
  have := rg_rng n_ta; have := rg_rng n_to; have := rg_rng n_tl; have := rg_rng v1; have := rg_rng x_7; omega
theorem lg_X9_kindAt_8 (n_ta : Int32) (n_to : Int32) (n_tl : Int32) (v1 : Int32) (x_7 : Int32) (yq : 0 ≤ n_ta.toInt ∧ n_ta.toInt ≤ 600 ∧ 0 ≤ n_to.toInt ∧ n_to.toInt ≤ 600 ∧ 0 ≤ n_tl.toInt ∧ n_tl.toInt ≤ 600) (t_2 : (0 : Int) ≤ v1.toInt) (t_5 : v1.toInt < n_tl.toInt) (t_10 : ¬ x_7.toInt = (32 : Int)) (t_12 : ¬ x_7.toInt = (10 : Int)) (t_14 : (97 : Int) ≤ x_7.toInt) (t_20 : (122 : Int) < x_7.toInt) (t_22 : (48 : Int) ≤ x_7.toInt) (t_24 : (57 : Int) < x_7.toInt) : 0 ≤ (2 : Int) ∧ (2 : Int) ≤ 3 := by
  have := rg_rng n_ta; have := rg_rng n_to; have := rg_rng n_tl; have := rg_rng v1; have := rg_rng x_7; omega
theorem lg_X9_kindAt_9 (n_ta : Int32) (n_to : Int32) (n_tl : Int32) (v1 : Int32) (x_7 : Int32) (yq : 0 ≤ n_ta.toInt ∧ n_ta.toInt ≤ 600 ∧ 0 ≤ n_to.toInt ∧ n_to.toInt ≤ 600 ∧ 0 ≤ n_tl.toInt ∧ n_tl.toInt ≤ 600) (t_2 : (0 : Int) ≤ v1.toInt) (t_5 : v1.toInt < n_tl.toInt) (t_10 : ¬ x_7.toInt = (32 : Int)) (t_12 : ¬ x_7.toInt = (10 : Int)) (t_14 : (97 : Int) ≤ x_7.toInt) (t_20 : (122 : Int) < x_7.toInt) (t_22 : (48 : Int) ≤ x_7.toInt) (t_24 : x_7.toInt ≤ (57 : Int)) : 0 ≤ (1 : Int) ∧ (1 : Int) ≤ 3 := by
  have := rg_rng n_ta; have := rg_rng n_to; have := rg_rng n_tl; have := rg_rng v1; have := rg_rng x_7; omega
theorem lg_X9_kindAt_10 (n_ta : Int32) (n_to : Int32) (n_tl : Int32) (v1 : Int32) (x_7 : Int32) (yq : 0 ≤ n_ta.toInt ∧ n_ta.toInt ≤ 600 ∧ 0 ≤ n_to.toInt ∧ n_to.toInt ≤ 600 ∧ 0 ≤ n_tl.toInt ∧ n_tl.toInt ≤ 600) (t_2 : (0 : Int) ≤ v1.toInt) (t_5 : v1.toInt < n_tl.toInt) (t_10 : ¬ x_7.toInt = (32 : Int)) (t_12 : ¬ x_7.toInt = (10 : Int)) (t_14 : (97 : Int) ≤ x_7.toInt) (t_20 : x_7.toInt ≤ (122 : Int)) : 0 ≤ (0 : Int) ∧ (0 : Int) ≤ 3 := by
  have := rg_rng n_ta; have := rg_rng n_to; have := rg_rng n_tl; have := rg_rng v1; have := rg_rng x_7; omega
theorem lg_X9_kindAt_11 (n_ta : Int32) (n_to : Int32) (n_tl : Int32) (v1 : Int32) (x_7 : Int32) (yq : 0 ≤ n_ta.toInt ∧ n_ta.toInt ≤ 600 ∧ 0 ≤ n_to.toInt ∧ n_to.toInt ≤ 600 ∧ 0 ≤ n_tl.toInt ∧ n_tl.toInt ≤ 600) (t_2 : (0 : Int) ≤ v1.toInt) (t_5 : v1.toInt < n_tl.toInt) (t_10 : ¬ x_7.toInt = (32 : Int)) (t_12 : x_7.toInt = (10 : Int)) : 0 ≤ (3 : Int) ∧ (3 : Int) ≤ 3 := by
  have := rg_rng n_ta; have := rg_rng n_to; have := rg_rng n_tl; have := rg_rng v1; have := rg_rng x_7; omega
set_option maxHeartbeats 4000000 in
set_option maxRecDepth 100000 in
theorem kX9_kindAt (l : Launch) (dC : Nat → ClassId) (dI : Nat → Nat → Nat) (sz : Nat) (h0 : Nat) (p_bytes : Nat) (p_ts : Nat) (p_tc : Nat) (n_ta : Int32) (n_to : Int32) (n_tl : Int32) (k_bytes : ClassId) (f_bytes : Nat → Int32) (v1 : Int32) (yq : 0 ≤ n_ta.toInt ∧ n_ta.toInt ≤ 600 ∧ 0 ≤ n_to.toInt ∧ n_to.toInt ≤ 600 ∧ 0 ≤ n_tl.toInt ∧ n_tl.toInt ≤ 600) : Met l yX9_kindAt (Cond.code yX9_kindAt cX9_kindAt 3 (some .int) :: bg) ({ frames := 0, cells := 0, slots := 0, locals := 0 }) (pcW dC dI [.ref h0, .int v1] sz [(h0, .inr (9, [.ref p_bytes, .ref p_ts, .ref p_tc, .int n_ta, .int n_to, .int n_tl])), (p_bytes, .inl (k_bytes, 600, .inl f_bytes))] [(k_bytes, .byte)]) (va_Qi (fun (r : Int32) (u : Unit) => 0 ≤ r.toInt ∧ r.toInt ≤ 3) (fun (u : Unit) (t : State) => va_P (dC, dI) vwCl [(h0, .inr (9, [.ref p_bytes, .ref p_ts, .ref p_tc, .int n_ta, .int n_to, .int n_tl])), (p_bytes, .inl (k_bytes, 600, .inl f_bytes))] t.heap ∧ va_K (dC, dI) vwCl [(k_bytes, .byte)] t ∧ va_D (va_A [(h0, .inr (9, [.ref p_bytes, .ref p_ts, .ref p_tc, .int n_ta, .int n_to, .int n_tl])), (p_bytes, .inl (k_bytes, 600, .inl f_bytes))] sz) [(h0, .inr (9, [.ref p_bytes, .ref p_ts, .ref p_tc, .int n_ta, .int n_to, .int n_tl])), (p_bytes, .inl (k_bytes, 600, .inl f_bytes))]) (va_A [(h0, .inr (9, [.ref p_bytes, .ref p_ts, .ref p_tc, .int n_ta, .int n_to, .int n_tl])), (p_bytes, .inl (k_bytes, 600, .inl f_bytes))] sz)) 0 0 (va_A [(h0, .inr (9, [.ref p_bytes, .ref p_ts, .ref p_tc, .int n_ta, .int n_to, .int n_tl])), (p_bytes, .inl (k_bytes, 600, .inl f_bytes))] sz) := by
  refine Met.ofW (cc := cX9_kindAt) (maxL := 3) (ret := (some .int)) pnX9 rfl ?_
  intro p e s m args below meth c s₁ B hml hv
  obtain ⟨rfl, hsz, hP, hK, hD0, hN⟩ := hv
  have hx := B.exec
  have hb := B.bytes
  have hr := B.returns
  have htb : ∀ w ∈ bg, w.before [.ref h0, .int v1].toArray s = true := fun w h => atoms_spec (ws := Cond.code yX9_kindAt cX9_kindAt 3 (some .int) :: bg) B.pre w (List.mem_cons_of_mem _ h)
  have hown : s.vm.findClass RX9 = some m.cls := findClass_of_methodNamed B.named
  have hlocks := B.notSynchronized
  subst hsz
  have hD := hD0.self (sz := s.heap.size)
  generalize hAe : va_A [(h0, .inr (9, [.ref p_bytes, .ref p_ts, .ref p_tc, .int n_ta, .int n_to, .int n_tl])), (p_bytes, .inl (k_bytes, 600, .inl f_bytes))] s.heap.size = A at hD ⊢
  have hA : ∀ q : Nat, s.heap.size ≤ q → A q := fun q h => by rw [← hAe]; exact Or.inr h
  have hS : va_S A s.heap s.heap [] := va_S.rf
  have hl := lv_entry ([.ref h0, .int v1]) (n := 3) (Nat.le_of_ble_eq_true rfl)
  rw [lg_entry_eq]
  generalize (lg_sl ([.ref h0, .int v1]) ++ List.replicate (3 - (lg_sl ([.ref h0, .int v1])).length) Slot.unset).toArray = ls at hl ⊢
  change lv_has ls 3 [(0, .ref h0), (1, .int v1)] at hl
  clear hD0 hAe
  refine go0 (wsP := fun H => va_P (dC, dI) vwCl [(h0, .inr (9, [.ref p_bytes, .ref p_ts, .ref p_tc, .int n_ta, .int n_to, .int n_tl])), (p_bytes, .inl (k_bytes, 600, .inl f_bytes))] H) hP hS ?_
  clear hP hS; intro H locs hP hS
  change va_P (dC, dI) vwCl [(h0, .inr (9, [.ref p_bytes, .ref p_ts, .ref p_tc, .int n_ta, .int n_to, .int n_tl])), (p_bytes, .inl (k_bytes, 600, .inl f_bytes))] H at hP
  refine lv_iload_n hx hb dX9_kindAt_0 rfl (lv_at hl 1 rfl) ?_
  refine lv_if_lt (tgt := 21) hx hb dX9_kindAt_1 (by decide) (fun c_1 => ?_) (fun c_1 => ?_)
  · have t_2 : v1.toInt < (0 : Int) := i_lt rfl (by decide) c_1
    refine lv_bipush (v := 32) hx hb dX9_kindAt_21 (by decide) ?_
    refine lv_istore_n (lv' := [(2, .int 32), (0, .ref h0), (1, .int v1)]) hx hb dX9_kindAt_23 rfl hl (by decide) rfl ?_
    clear hl; intro ls hl
    refine lv_iload_n hx hb dX9_kindAt_24 rfl (lv_at hl 0 rfl) ?_
    refine lv_bipush (v := 32) hx hb dX9_kindAt_25 (by decide) ?_
    refine lv_icmp_eq (tgt := 36) hx hb dX9_kindAt_27 (by decide) ?_ (fun c_3 => absurd (by decide) c_3)
    intro _
    refine lv_iconst (v := 3) hx hb dX9_kindAt_36 (by decide) ?_
    refine W.widen (k := 0) (n := 0) (Nat.le_of_ble_eq_true rfl) (Nat.le_of_ble_eq_true rfl) ?_
    have hP9 := hP.sub (ws' := [(h0, .inr (9, [.ref p_bytes, .ref p_ts, .ref p_tc, .int n_ta, .int n_to, .int n_tl])), (p_bytes, .inl (k_bytes, 600, .inl f_bytes))]) [0, 1] rfl
    have hD9 := hD.sub (ws' := [(h0, .inr (9, [.ref p_bytes, .ref p_ts, .ref p_tc, .int n_ta, .int n_to, .int n_tl])), (p_bytes, .inl (k_bytes, 600, .inl f_bytes))]) [0, 1] (by decide) rfl
    have hK9 := hK.sub (tys' := [(k_bytes, .byte)]) [0] rfl
    exact W.iret (v := 3) hx hb hr (fun t ht hW => ⟨⟨3, (), rfl, (lg_X9_kindAt_0 n_ta n_to n_tl v1 yq t_2), ⟨by rw [ht]; exact hP9, va_K.moved hW.alike hK9, hD9⟩⟩, hS.F ht⟩) hS.2.2 dX9_kindAt_37
  · have t_2 : (0 : Int) ≤ v1.toInt := i_nlt rfl (by decide) c_1
    refine lv_iload_n hx hb dX9_kindAt_4 rfl (lv_at hl 1 rfl) ?_
    refine lv_aload_n hx hb dX9_kindAt_5 rfl (lv_at hl 0 rfl) ?_
    refine va_get (D := (dC, dI)) (ci := 9) (v := .int n_tl) (C := RX9) (T := TX9) (N := 6) hx hb htb iX9 hown hK hP 0 rfl rfl 5 (Nat.le_of_ble_eq_true rfl) (htb _ m_242) (fun _ h9 => h9) rfl dX9_kindAt_6 ?_
    refine lv_icmp_ge (tgt := 21) hx hb dX9_kindAt_9 (by decide) (fun c_4 => ?_) (fun c_4 => ?_)
    · have t_5 : n_tl.toInt ≤ v1.toInt := i_le rfl rfl c_4
      refine lv_bipush (v := 32) hx hb dX9_kindAt_21 (by decide) ?_
      refine lv_istore_n (lv' := [(2, .int 32), (0, .ref h0), (1, .int v1)]) hx hb dX9_kindAt_23 rfl hl (by decide) rfl ?_
      clear hl; intro ls hl
      refine lv_iload_n hx hb dX9_kindAt_24 rfl (lv_at hl 0 rfl) ?_
      refine lv_bipush (v := 32) hx hb dX9_kindAt_25 (by decide) ?_
      refine lv_icmp_eq (tgt := 36) hx hb dX9_kindAt_27 (by decide) ?_ (fun c_6 => absurd (by decide) c_6)
      intro _
      refine lv_iconst (v := 3) hx hb dX9_kindAt_36 (by decide) ?_
      refine W.widen (k := 0) (n := 0) (Nat.le_of_ble_eq_true rfl) (Nat.le_of_ble_eq_true rfl) ?_
      have hP9 := hP.sub (ws' := [(h0, .inr (9, [.ref p_bytes, .ref p_ts, .ref p_tc, .int n_ta, .int n_to, .int n_tl])), (p_bytes, .inl (k_bytes, 600, .inl f_bytes))]) [0, 1] rfl
      have hD9 := hD.sub (ws' := [(h0, .inr (9, [.ref p_bytes, .ref p_ts, .ref p_tc, .int n_ta, .int n_to, .int n_tl])), (p_bytes, .inl (k_bytes, 600, .inl f_bytes))]) [0, 1] (by decide) rfl
      have hK9 := hK.sub (tys' := [(k_bytes, .byte)]) [0] rfl
      exact W.iret (v := 3) hx hb hr (fun t ht hW => ⟨⟨3, (), rfl, (lg_X9_kindAt_1 n_ta n_to n_tl v1 yq t_2 t_5), ⟨by rw [ht]; exact hP9, va_K.moved hW.alike hK9, hD9⟩⟩, hS.F ht⟩) hS.2.2 dX9_kindAt_37
    · have t_5 : v1.toInt < n_tl.toInt := i_nle rfl rfl c_4
      refine lv_aload_n hx hb dX9_kindAt_12 rfl (lv_at hl 0 rfl) ?_
      refine va_get (D := (dC, dI)) (ci := 9) (v := .ref p_bytes) (C := RX9) (T := TX9) (N := 6) hx hb htb iX9 hown hK hP 0 rfl rfl 0 (Nat.le_of_ble_eq_true rfl) (htb _ m_236) (fun _ h9 => h9) rfl dX9_kindAt_13 ?_
      refine lv_iload_n hx hb dX9_kindAt_16 rfl (lv_at hl 1 rfl) ?_
      refine va_bald hx hb hK hP 1 0 rfl rfl (i_in rfl (lg_X9_kindAt_2 n_ta n_to n_tl v1 yq t_2 t_5)) dX9_kindAt_17 ?_
      refine lv_topi (fun x_7 ex_8 => ?_)
      refine lv_goto (tgt := 23) hx hb dX9_kindAt_18 (by decide) ?_
      refine lv_istore_n (lv' := [(2, .int x_7), (0, .ref h0), (1, .int v1)]) hx hb dX9_kindAt_23 rfl hl (by decide) rfl ?_
      clear hl; intro ls hl
      refine lv_iload_n hx hb dX9_kindAt_24 rfl (lv_at hl 0 rfl) ?_
      refine lv_bipush (v := 32) hx hb dX9_kindAt_25 (by decide) ?_
      refine lv_icmp_eq (tgt := 36) hx hb dX9_kindAt_27 (by decide) (fun c_9 => ?_) (fun c_9 => ?_)
      · have t_10 : x_7.toInt = (32 : Int) := i_eq rfl (by decide) c_9
        refine lv_iconst (v := 3) hx hb dX9_kindAt_36 (by decide) ?_
        refine W.widen (k := 0) (n := 0) (Nat.le_of_ble_eq_true rfl) (Nat.le_of_ble_eq_true rfl) ?_
        have hP9 := hP.sub (ws' := [(h0, .inr (9, [.ref p_bytes, .ref p_ts, .ref p_tc, .int n_ta, .int n_to, .int n_tl])), (p_bytes, .inl (k_bytes, 600, .inl f_bytes))]) [0, 1] rfl
        have hD9 := hD.sub (ws' := [(h0, .inr (9, [.ref p_bytes, .ref p_ts, .ref p_tc, .int n_ta, .int n_to, .int n_tl])), (p_bytes, .inl (k_bytes, 600, .inl f_bytes))]) [0, 1] (by decide) rfl
        have hK9 := hK.sub (tys' := [(k_bytes, .byte)]) [0] rfl
        exact W.iret (v := 3) hx hb hr (fun t ht hW => ⟨⟨3, (), rfl, (lg_X9_kindAt_3 n_ta n_to n_tl v1 x_7 yq t_2 t_5 t_10), ⟨by rw [ht]; exact hP9, va_K.moved hW.alike hK9, hD9⟩⟩, hS.F ht⟩) hS.2.2 dX9_kindAt_37
      · have t_10 : ¬ x_7.toInt = (32 : Int) := i_ne rfl (by decide) c_9
        refine lv_iload_n hx hb dX9_kindAt_30 rfl (lv_at hl 0 rfl) ?_
        refine lv_bipush (v := 10) hx hb dX9_kindAt_31 (by decide) ?_
        refine lv_icmp_ne (tgt := 38) hx hb dX9_kindAt_33 (by decide) (fun c_11 => ?_) (fun c_11 => ?_)
        · have t_12 : ¬ x_7.toInt = (10 : Int) := i_ne rfl (by decide) c_11
          refine lv_iload_n hx hb dX9_kindAt_38 rfl (lv_at hl 0 rfl) ?_
          refine lv_bipush (v := 97) hx hb dX9_kindAt_39 (by decide) ?_
          refine lv_icmp_lt (tgt := 52) hx hb dX9_kindAt_41 (by decide) (fun c_13 => ?_) (fun c_13 => ?_)
          · have t_14 : x_7.toInt < (97 : Int) := i_lt rfl (by decide) c_13
            refine lv_iload_n hx hb dX9_kindAt_52 rfl (lv_at hl 0 rfl) ?_
            refine lv_bipush (v := 48) hx hb dX9_kindAt_53 (by decide) ?_
            refine lv_icmp_lt (tgt := 68) hx hb dX9_kindAt_55 (by decide) (fun c_15 => ?_) (fun c_15 => ?_)
            · have t_16 : x_7.toInt < (48 : Int) := i_lt rfl (by decide) c_15
              refine lv_iconst (v := 2) hx hb dX9_kindAt_68 (by decide) ?_
              refine W.widen (k := 0) (n := 0) (Nat.le_of_ble_eq_true rfl) (Nat.le_of_ble_eq_true rfl) ?_
              have hP9 := hP.sub (ws' := [(h0, .inr (9, [.ref p_bytes, .ref p_ts, .ref p_tc, .int n_ta, .int n_to, .int n_tl])), (p_bytes, .inl (k_bytes, 600, .inl f_bytes))]) [0, 1] rfl
              have hD9 := hD.sub (ws' := [(h0, .inr (9, [.ref p_bytes, .ref p_ts, .ref p_tc, .int n_ta, .int n_to, .int n_tl])), (p_bytes, .inl (k_bytes, 600, .inl f_bytes))]) [0, 1] (by decide) rfl
              have hK9 := hK.sub (tys' := [(k_bytes, .byte)]) [0] rfl
              exact W.iret (v := 2) hx hb hr (fun t ht hW => ⟨⟨2, (), rfl, (lg_X9_kindAt_4 n_ta n_to n_tl v1 x_7 yq t_2 t_5 t_10 t_12 t_14 t_16), ⟨by rw [ht]; exact hP9, va_K.moved hW.alike hK9, hD9⟩⟩, hS.F ht⟩) hS.2.2 dX9_kindAt_69
            · have t_16 : (48 : Int) ≤ x_7.toInt := i_nlt rfl (by decide) c_15
              refine lv_iload_n hx hb dX9_kindAt_58 rfl (lv_at hl 0 rfl) ?_
              refine lv_bipush (v := 57) hx hb dX9_kindAt_59 (by decide) ?_
              refine lv_icmp_gt (tgt := 68) hx hb dX9_kindAt_61 (by decide) (fun c_17 => ?_) (fun c_17 => ?_)
              · have t_18 : (57 : Int) < x_7.toInt := i_lt (by decide) rfl c_17
                refine lv_iconst (v := 2) hx hb dX9_kindAt_68 (by decide) ?_
                refine W.widen (k := 0) (n := 0) (Nat.le_of_ble_eq_true rfl) (Nat.le_of_ble_eq_true rfl) ?_
                have hP9 := hP.sub (ws' := [(h0, .inr (9, [.ref p_bytes, .ref p_ts, .ref p_tc, .int n_ta, .int n_to, .int n_tl])), (p_bytes, .inl (k_bytes, 600, .inl f_bytes))]) [0, 1] rfl
                have hD9 := hD.sub (ws' := [(h0, .inr (9, [.ref p_bytes, .ref p_ts, .ref p_tc, .int n_ta, .int n_to, .int n_tl])), (p_bytes, .inl (k_bytes, 600, .inl f_bytes))]) [0, 1] (by decide) rfl
                have hK9 := hK.sub (tys' := [(k_bytes, .byte)]) [0] rfl
                exact W.iret (v := 2) hx hb hr (fun t ht hW => ⟨⟨2, (), rfl, (lg_X9_kindAt_5 n_ta n_to n_tl v1 x_7 yq t_2 t_5 t_10 t_12 t_14 t_16 t_18), ⟨by rw [ht]; exact hP9, va_K.moved hW.alike hK9, hD9⟩⟩, hS.F ht⟩) hS.2.2 dX9_kindAt_69
              · have t_18 : x_7.toInt ≤ (57 : Int) := i_nlt (by decide) rfl c_17
                refine lv_iconst (v := 1) hx hb dX9_kindAt_64 (by decide) ?_
                refine lv_goto (tgt := 69) hx hb dX9_kindAt_65 (by decide) ?_
                refine W.widen (k := 0) (n := 0) (Nat.le_of_ble_eq_true rfl) (Nat.le_of_ble_eq_true rfl) ?_
                have hP9 := hP.sub (ws' := [(h0, .inr (9, [.ref p_bytes, .ref p_ts, .ref p_tc, .int n_ta, .int n_to, .int n_tl])), (p_bytes, .inl (k_bytes, 600, .inl f_bytes))]) [0, 1] rfl
                have hD9 := hD.sub (ws' := [(h0, .inr (9, [.ref p_bytes, .ref p_ts, .ref p_tc, .int n_ta, .int n_to, .int n_tl])), (p_bytes, .inl (k_bytes, 600, .inl f_bytes))]) [0, 1] (by decide) rfl
                have hK9 := hK.sub (tys' := [(k_bytes, .byte)]) [0] rfl
                exact W.iret (v := 1) hx hb hr (fun t ht hW => ⟨⟨1, (), rfl, (lg_X9_kindAt_6 n_ta n_to n_tl v1 x_7 yq t_2 t_5 t_10 t_12 t_14 t_16 t_18), ⟨by rw [ht]; exact hP9, va_K.moved hW.alike hK9, hD9⟩⟩, hS.F ht⟩) hS.2.2 dX9_kindAt_69
          · have t_14 : (97 : Int) ≤ x_7.toInt := i_nlt rfl (by decide) c_13
            refine lv_iload_n hx hb dX9_kindAt_44 rfl (lv_at hl 0 rfl) ?_
            refine lv_bipush (v := 122) hx hb dX9_kindAt_45 (by decide) ?_
            refine lv_icmp_gt (tgt := 52) hx hb dX9_kindAt_47 (by decide) (fun c_19 => ?_) (fun c_19 => ?_)
            · have t_20 : (122 : Int) < x_7.toInt := i_lt (by decide) rfl c_19
              refine lv_iload_n hx hb dX9_kindAt_52 rfl (lv_at hl 0 rfl) ?_
              refine lv_bipush (v := 48) hx hb dX9_kindAt_53 (by decide) ?_
              refine lv_icmp_lt (tgt := 68) hx hb dX9_kindAt_55 (by decide) (fun c_21 => ?_) (fun c_21 => ?_)
              · have t_22 : x_7.toInt < (48 : Int) := i_lt rfl (by decide) c_21
                refine lv_iconst (v := 2) hx hb dX9_kindAt_68 (by decide) ?_
                refine W.widen (k := 0) (n := 0) (Nat.le_of_ble_eq_true rfl) (Nat.le_of_ble_eq_true rfl) ?_
                have hP9 := hP.sub (ws' := [(h0, .inr (9, [.ref p_bytes, .ref p_ts, .ref p_tc, .int n_ta, .int n_to, .int n_tl])), (p_bytes, .inl (k_bytes, 600, .inl f_bytes))]) [0, 1] rfl
                have hD9 := hD.sub (ws' := [(h0, .inr (9, [.ref p_bytes, .ref p_ts, .ref p_tc, .int n_ta, .int n_to, .int n_tl])), (p_bytes, .inl (k_bytes, 600, .inl f_bytes))]) [0, 1] (by decide) rfl
                have hK9 := hK.sub (tys' := [(k_bytes, .byte)]) [0] rfl
                exact W.iret (v := 2) hx hb hr (fun t ht hW => ⟨⟨2, (), rfl, (lg_X9_kindAt_7 n_ta n_to n_tl v1 x_7 yq t_2 t_5 t_10 t_12 t_14 t_20 t_22), ⟨by rw [ht]; exact hP9, va_K.moved hW.alike hK9, hD9⟩⟩, hS.F ht⟩) hS.2.2 dX9_kindAt_69
              · have t_22 : (48 : Int) ≤ x_7.toInt := i_nlt rfl (by decide) c_21
                refine lv_iload_n hx hb dX9_kindAt_58 rfl (lv_at hl 0 rfl) ?_
                refine lv_bipush (v := 57) hx hb dX9_kindAt_59 (by decide) ?_
                refine lv_icmp_gt (tgt := 68) hx hb dX9_kindAt_61 (by decide) (fun c_23 => ?_) (fun c_23 => ?_)
                · have t_24 : (57 : Int) < x_7.toInt := i_lt (by decide) rfl c_23
                  refine lv_iconst (v := 2) hx hb dX9_kindAt_68 (by decide) ?_
                  refine W.widen (k := 0) (n := 0) (Nat.le_of_ble_eq_true rfl) (Nat.le_of_ble_eq_true rfl) ?_
                  have hP9 := hP.sub (ws' := [(h0, .inr (9, [.ref p_bytes, .ref p_ts, .ref p_tc, .int n_ta, .int n_to, .int n_tl])), (p_bytes, .inl (k_bytes, 600, .inl f_bytes))]) [0, 1] rfl
                  have hD9 := hD.sub (ws' := [(h0, .inr (9, [.ref p_bytes, .ref p_ts, .ref p_tc, .int n_ta, .int n_to, .int n_tl])), (p_bytes, .inl (k_bytes, 600, .inl f_bytes))]) [0, 1] (by decide) rfl
                  have hK9 := hK.sub (tys' := [(k_bytes, .byte)]) [0] rfl
                  exact W.iret (v := 2) hx hb hr (fun t ht hW => ⟨⟨2, (), rfl, (lg_X9_kindAt_8 n_ta n_to n_tl v1 x_7 yq t_2 t_5 t_10 t_12 t_14 t_20 t_22 t_24), ⟨by rw [ht]; exact hP9, va_K.moved hW.alike hK9, hD9⟩⟩, hS.F ht⟩) hS.2.2 dX9_kindAt_69
                · have t_24 : x_7.toInt ≤ (57 : Int) := i_nlt (by decide) rfl c_23
                  refine lv_iconst (v := 1) hx hb dX9_kindAt_64 (by decide) ?_
                  refine lv_goto (tgt := 69) hx hb dX9_kindAt_65 (by decide) ?_
                  refine W.widen (k := 0) (n := 0) (Nat.le_of_ble_eq_true rfl) (Nat.le_of_ble_eq_true rfl) ?_
                  have hP9 := hP.sub (ws' := [(h0, .inr (9, [.ref p_bytes, .ref p_ts, .ref p_tc, .int n_ta, .int n_to, .int n_tl])), (p_bytes, .inl (k_bytes, 600, .inl f_bytes))]) [0, 1] rfl
                  have hD9 := hD.sub (ws' := [(h0, .inr (9, [.ref p_bytes, .ref p_ts, .ref p_tc, .int n_ta, .int n_to, .int n_tl])), (p_bytes, .inl (k_bytes, 600, .inl f_bytes))]) [0, 1] (by decide) rfl
                  have hK9 := hK.sub (tys' := [(k_bytes, .byte)]) [0] rfl
                  exact W.iret (v := 1) hx hb hr (fun t ht hW => ⟨⟨1, (), rfl, (lg_X9_kindAt_9 n_ta n_to n_tl v1 x_7 yq t_2 t_5 t_10 t_12 t_14 t_20 t_22 t_24), ⟨by rw [ht]; exact hP9, va_K.moved hW.alike hK9, hD9⟩⟩, hS.F ht⟩) hS.2.2 dX9_kindAt_69
            · have t_20 : x_7.toInt ≤ (122 : Int) := i_nlt (by decide) rfl c_19
              refine lv_iconst (v := 0) hx hb dX9_kindAt_50 (by decide) ?_
              refine W.widen (k := 0) (n := 0) (Nat.le_of_ble_eq_true rfl) (Nat.le_of_ble_eq_true rfl) ?_
              have hP9 := hP.sub (ws' := [(h0, .inr (9, [.ref p_bytes, .ref p_ts, .ref p_tc, .int n_ta, .int n_to, .int n_tl])), (p_bytes, .inl (k_bytes, 600, .inl f_bytes))]) [0, 1] rfl
              have hD9 := hD.sub (ws' := [(h0, .inr (9, [.ref p_bytes, .ref p_ts, .ref p_tc, .int n_ta, .int n_to, .int n_tl])), (p_bytes, .inl (k_bytes, 600, .inl f_bytes))]) [0, 1] (by decide) rfl
              have hK9 := hK.sub (tys' := [(k_bytes, .byte)]) [0] rfl
              exact W.iret (v := 0) hx hb hr (fun t ht hW => ⟨⟨0, (), rfl, (lg_X9_kindAt_10 n_ta n_to n_tl v1 x_7 yq t_2 t_5 t_10 t_12 t_14 t_20), ⟨by rw [ht]; exact hP9, va_K.moved hW.alike hK9, hD9⟩⟩, hS.F ht⟩) hS.2.2 dX9_kindAt_51
        · have t_12 : x_7.toInt = (10 : Int) := i_eq rfl (by decide) c_11
          refine lv_iconst (v := 3) hx hb dX9_kindAt_36 (by decide) ?_
          refine W.widen (k := 0) (n := 0) (Nat.le_of_ble_eq_true rfl) (Nat.le_of_ble_eq_true rfl) ?_
          have hP9 := hP.sub (ws' := [(h0, .inr (9, [.ref p_bytes, .ref p_ts, .ref p_tc, .int n_ta, .int n_to, .int n_tl])), (p_bytes, .inl (k_bytes, 600, .inl f_bytes))]) [0, 1] rfl
          have hD9 := hD.sub (ws' := [(h0, .inr (9, [.ref p_bytes, .ref p_ts, .ref p_tc, .int n_ta, .int n_to, .int n_tl])), (p_bytes, .inl (k_bytes, 600, .inl f_bytes))]) [0, 1] (by decide) rfl
          have hK9 := hK.sub (tys' := [(k_bytes, .byte)]) [0] rfl
          exact W.iret (v := 3) hx hb hr (fun t ht hW => ⟨⟨3, (), rfl, (lg_X9_kindAt_11 n_ta n_to n_tl v1 x_7 yq t_2 t_5 t_10 t_12), ⟨by rw [ht]; exact hP9, va_K.moved hW.alike hK9, hD9⟩⟩, hS.F ht⟩) hS.2.2 dX9_kindAt_37

theorem lg_X9_beginsToken_0 (n_ta : Int32) (n_to : Int32) (n_tl : Int32) (v1 : Int32) (r_1 : Int32) (yq : 0 ≤ n_ta.toInt ∧ n_ta.toInt ≤ 600 ∧ 0 ≤ n_to.toInt ∧ n_to.toInt ≤ 600 ∧ 0 ≤ n_tl.toInt ∧ n_tl.toInt ≤ 600) (yv : 0 ≤ v1.toInt ∧ v1.toInt < n_tl.toInt) (h_2 : 0 ≤ r_1.toInt ∧ r_1.toInt ≤ 3) (t_4 : r_1.toInt = (2 : Int)) : True := by
  have := rg_rng n_ta; have := rg_rng n_to; have := rg_rng n_tl; have := rg_rng v1; have := rg_rng r_1; trivial
theorem lg_X9_beginsToken_1 (n_ta : Int32) (n_to : Int32) (n_tl : Int32) (v1 : Int32) (r_1 : Int32) (yq : 0 ≤ n_ta.toInt ∧ n_ta.toInt ≤ 600 ∧ 0 ≤ n_to.toInt ∧ n_to.toInt ≤ 600 ∧ 0 ≤ n_tl.toInt ∧ n_tl.toInt ≤ 600) (yv : 0 ≤ v1.toInt ∧ v1.toInt < n_tl.toInt) (h_2 : 0 ≤ r_1.toInt ∧ r_1.toInt ≤ 3) (t_4 : ¬ r_1.toInt = (2 : Int)) (t_6 : r_1.toInt = (3 : Int)) : True := by
  have := rg_rng n_ta; have := rg_rng n_to; have := rg_rng n_tl; have := rg_rng v1; have := rg_rng r_1; trivial
theorem lg_X9_beginsToken_2 (n_ta : Int32) (n_to : Int32) (n_tl : Int32) (v1 : Int32) (r_1 : Int32) (yq : 0 ≤ n_ta.toInt ∧ n_ta.toInt ≤ 600 ∧ 0 ≤ n_to.toInt ∧ n_to.toInt ≤ 600 ∧ 0 ≤ n_tl.toInt ∧ n_tl.toInt ≤ 600) (yv : 0 ≤ v1.toInt ∧ v1.toInt < n_tl.toInt) (h_2 : 0 ≤ r_1.toInt ∧ r_1.toInt ≤ 3) (t_4 : ¬ r_1.toInt = (2 : Int)) (t_6 : ¬ r_1.toInt = (3 : Int)) (t_8 : v1.toInt = (0 : Int)) : True := by
  have := rg_rng n_ta; have := rg_rng n_to; have := rg_rng n_tl; have := rg_rng v1; have := rg_rng r_1; trivial
theorem lg_X9_beginsToken_3 (n_ta : Int32) (n_to : Int32) (n_tl : Int32) (v1 : Int32) (r_1 : Int32) (yq : 0 ≤ n_ta.toInt ∧ n_ta.toInt ≤ 600 ∧ 0 ≤ n_to.toInt ∧ n_to.toInt ≤ 600 ∧ 0 ≤ n_tl.toInt ∧ n_tl.toInt ≤ 600) (yv : 0 ≤ v1.toInt ∧ v1.toInt < n_tl.toInt) (h_2 : 0 ≤ r_1.toInt ∧ r_1.toInt ≤ 3) (t_4 : ¬ r_1.toInt = (2 : Int)) (t_6 : ¬ r_1.toInt = (3 : Int)) (t_8 : ¬ v1.toInt = (0 : Int)) : -2147483648 ≤ v1.toInt - (1 : Int) ∧ v1.toInt - (1 : Int) < 2147483648 := by
  have := rg_rng n_ta; have := rg_rng n_to; have := rg_rng n_tl; have := rg_rng v1; have := rg_rng r_1; omega
theorem lg_X9_beginsToken_4 (n_ta : Int32) (n_to : Int32) (n_tl : Int32) (v1 : Int32) (r_1 : Int32) (x_9 : Int32) (r_12 : Int32) (yq : 0 ≤ n_ta.toInt ∧ n_ta.toInt ≤ 600 ∧ 0 ≤ n_to.toInt ∧ n_to.toInt ≤ 600 ∧ 0 ≤ n_tl.toInt ∧ n_tl.toInt ≤ 600) (yv : 0 ≤ v1.toInt ∧ v1.toInt < n_tl.toInt) (h_2 : 0 ≤ r_1.toInt ∧ r_1.toInt ≤ 3) (t_4 : ¬ r_1.toInt = (2 : Int)) (t_6 : ¬ r_1.toInt = (3 : Int)) (t_8 : ¬ v1.toInt = (0 : Int)) (t_11 : x_9.toInt = v1.toInt - (1 : Int)) (h_13 : 0 ≤ r_12.toInt ∧ r_12.toInt ≤ 3) (t_15 : r_12.toInt = r_1.toInt) : True := by
  have := rg_rng n_ta; have := rg_rng n_to; have := rg_rng n_tl; have := rg_rng v1; have := rg_rng r_1; have := rg_rng x_9; have := rg_rng r_12; trivial
theorem lg_X9_beginsToken_5 (n_ta : Int32) (n_to : Int32) (n_tl : Int32) (v1 : Int32) (r_1 : Int32) (x_9 : Int32) (r_12 : Int32) (yq : 0 ≤ n_ta.toInt ∧ n_ta.toInt ≤ 600 ∧ 0 ≤ n_to.toInt ∧ n_to.toInt ≤ 600 ∧ 0 ≤ n_tl.toInt ∧ n_tl.toInt ≤ 600) (yv : 0 ≤ v1.toInt ∧ v1.toInt < n_tl.toInt) (h_2 : 0 ≤ r_1.toInt ∧ r_1.toInt ≤ 3) (t_4 : ¬ r_1.toInt = (2 : Int)) (t_6 : ¬ r_1.toInt = (3 : Int)) (t_8 : ¬ v1.toInt = (0 : Int)) (t_11 : x_9.toInt = v1.toInt - (1 : Int)) (h_13 : 0 ≤ r_12.toInt ∧ r_12.toInt ≤ 3) (t_15 : ¬ r_12.toInt = r_1.toInt) : True := by
  have := rg_rng n_ta; have := rg_rng n_to; have := rg_rng n_tl; have := rg_rng v1; have := rg_rng r_1; have := rg_rng x_9; have := rg_rng r_12; trivial
set_option maxHeartbeats 4000000 in
set_option maxRecDepth 100000 in
theorem kX9_beginsToken (l : Launch) (dC : Nat → ClassId) (dI : Nat → Nat → Nat) (sz : Nat) (h0 : Nat) (p_bytes : Nat) (p_ts : Nat) (p_tc : Nat) (n_ta : Int32) (n_to : Int32) (n_tl : Int32) (k_bytes : ClassId) (f_bytes : Nat → Int32) (v1 : Int32) (yq : 0 ≤ n_ta.toInt ∧ n_ta.toInt ≤ 600 ∧ 0 ≤ n_to.toInt ∧ n_to.toInt ≤ 600 ∧ 0 ≤ n_tl.toInt ∧ n_tl.toInt ≤ 600) (yv : 0 ≤ v1.toInt ∧ v1.toInt < n_tl.toInt) : Met l yX9_beginsToken (Cond.code yX9_beginsToken cX9_beginsToken 3 (some .boolean) :: bg) ({ frames := 1, cells := 0, slots := 0, locals := 22 }) (pcW dC dI [.ref h0, .int v1] sz [(h0, .inr (9, [.ref p_bytes, .ref p_ts, .ref p_tc, .int n_ta, .int n_to, .int n_tl])), (p_bytes, .inl (k_bytes, 600, .inl f_bytes))] [(k_bytes, .byte)]) (va_Qi (fun (r : Int32) (u : Unit) => (r = 1 ∧ True) ∨ (r = 0 ∧ True)) (fun (u : Unit) (t : State) => va_P (dC, dI) vwCl [(h0, .inr (9, [.ref p_bytes, .ref p_ts, .ref p_tc, .int n_ta, .int n_to, .int n_tl])), (p_bytes, .inl (k_bytes, 600, .inl f_bytes))] t.heap ∧ va_K (dC, dI) vwCl [(k_bytes, .byte)] t ∧ va_D (va_A [(h0, .inr (9, [.ref p_bytes, .ref p_ts, .ref p_tc, .int n_ta, .int n_to, .int n_tl])), (p_bytes, .inl (k_bytes, 600, .inl f_bytes))] sz) [(h0, .inr (9, [.ref p_bytes, .ref p_ts, .ref p_tc, .int n_ta, .int n_to, .int n_tl])), (p_bytes, .inl (k_bytes, 600, .inl f_bytes))]) (va_A [(h0, .inr (9, [.ref p_bytes, .ref p_ts, .ref p_tc, .int n_ta, .int n_to, .int n_tl])), (p_bytes, .inl (k_bytes, 600, .inl f_bytes))] sz)) 0 0 (va_A [(h0, .inr (9, [.ref p_bytes, .ref p_ts, .ref p_tc, .int n_ta, .int n_to, .int n_tl])), (p_bytes, .inl (k_bytes, 600, .inl f_bytes))] sz) := by
  refine Met.ofW (cc := cX9_beginsToken) (maxL := 3) (ret := (some .boolean)) pnX9 rfl ?_
  intro p e s m args below meth c s₁ B hml hv
  obtain ⟨rfl, hsz, hP, hK, hD0, hN⟩ := hv
  have hx := B.exec
  have hb := B.bytes
  have hr := B.returns
  have htb : ∀ w ∈ bg, w.before [.ref h0, .int v1].toArray s = true := fun w h => atoms_spec (ws := Cond.code yX9_beginsToken cX9_beginsToken 3 (some .boolean) :: bg) B.pre w (List.mem_cons_of_mem _ h)
  have hown : s.vm.findClass RX9 = some m.cls := findClass_of_methodNamed B.named
  have hlocks := B.notSynchronized
  subst hsz
  have hD := hD0.self (sz := s.heap.size)
  generalize hAe : va_A [(h0, .inr (9, [.ref p_bytes, .ref p_ts, .ref p_tc, .int n_ta, .int n_to, .int n_tl])), (p_bytes, .inl (k_bytes, 600, .inl f_bytes))] s.heap.size = A at hD ⊢
  have hA : ∀ q : Nat, s.heap.size ≤ q → A q := fun q h => by rw [← hAe]; exact Or.inr h
  have hS : va_S A s.heap s.heap [] := va_S.rf
  have hl := lv_entry ([.ref h0, .int v1]) (n := 3) (Nat.le_of_ble_eq_true rfl)
  rw [lg_entry_eq]
  generalize (lg_sl ([.ref h0, .int v1]) ++ List.replicate (3 - (lg_sl ([.ref h0, .int v1])).length) Slot.unset).toArray = ls at hl ⊢
  change lv_has ls 3 [(0, .ref h0), (1, .int v1)] at hl
  clear hD0 hAe
  refine go0 (wsP := fun H => va_P (dC, dI) vwCl [(h0, .inr (9, [.ref p_bytes, .ref p_ts, .ref p_tc, .int n_ta, .int n_to, .int n_tl])), (p_bytes, .inl (k_bytes, 600, .inl f_bytes))] H) hP hS ?_
  clear hP hS; intro H locs hP hS
  change va_P (dC, dI) vwCl [(h0, .inr (9, [.ref p_bytes, .ref p_ts, .ref p_tc, .int n_ta, .int n_to, .int n_tl])), (p_bytes, .inl (k_bytes, 600, .inl f_bytes))] H at hP
  refine lv_aload_n hx hb dX9_beginsToken_0 rfl (lv_at hl 0 rfl) ?_
  refine lv_iload_n hx hb dX9_beginsToken_1 rfl (lv_at hl 1 rfl) ?_
  have hPc := hP.sub (ws' := [(h0, .inr (9, [.ref p_bytes, .ref p_ts, .ref p_tc, .int n_ta, .int n_to, .int n_tl])), (p_bytes, .inl (k_bytes, 600, .inl f_bytes))]) [0, 1] rfl
  have hDc := hD.sub (ws' := [(h0, .inr (9, [.ref p_bytes, .ref p_ts, .ref p_tc, .int n_ta, .int n_to, .int n_tl])), (p_bytes, .inl (k_bytes, 600, .inl f_bytes))]) [0, 1] (by decide) rfl
  have hKc := hK.sub (tys' := [(k_bytes, .byte)]) [0] rfl
  have hFc := va_free (wc := [(h0, .inr (9, [.ref p_bytes, .ref p_ts, .ref p_tc, .int n_ta, .int n_to, .int n_tl])), (p_bytes, .inl (k_bytes, 600, .inl f_bytes))]) hD hS hA [0, 1] rfl
  refine va_calli (va_runV (C := RX9) (As := [.int v1]) (rest := []) ⟨hx, hb, hml, hown, htb⟩ (kX9_kindAt l dC dI H.size h0 p_bytes p_ts p_tc n_ta n_to n_tl k_bytes f_bytes v1 yq) ⟨callB_of 1 htb (gd_c m_821) rfl rfl rfl (htb _ m_10) (htb _ m_818) hdX9_kindAt ⟨(Nat.le_of_ble_eq_true rfl), (Nat.le_of_ble_eq_true rfl)⟩, htb _ m_820, htb _ ms_17⟩ ⟨pcW_blind, va_recv hKc hPc (ci := 9) (q0 := 0) rfl rfl, pcW_at hPc hKc hDc hN⟩ rfl rfl hl.1 rfl (lv_room (Nat.le_of_ble_eq_true rfl)) dX9_beginsToken_2 ⟨(Nat.le_of_ble_eq_true rfl), (Nat.le_of_ble_eq_true rfl)⟩) hS (fun q _ h => hFc q h) hFc (fun r_1 u t H1 locs1 ht hvm h_2 hB hz1 hk1 hS1 => ?_)
  obtain ⟨hP1, hK1, hD1⟩ := hB
  rw [ht] at hP1
  obtain ⟨hPn, hDn⟩ := va_join (wr := []) (w1 := [(h0, .inr (9, [.ref p_bytes, .ref p_ts, .ref p_tc, .int n_ta, .int n_to, .int n_tl])), (p_bytes, .inl (k_bytes, 600, .inl f_bytes))]) hP hD [0, 1] [] rfl rfl (by decide) (by decide) hk1 hFc hP1 hD1
  clear hP1 hD1 hK1
  clear hP hD hS hPc hDc hKc hFc hk1 hz1 ht hvm
  clear t
  revert hS1 hPn hDn; generalize H1 = H; generalize locs1 = locs; intro hS hP hD
  change va_P (dC, dI) vwCl [(h0, .inr (9, [.ref p_bytes, .ref p_ts, .ref p_tc, .int n_ta, .int n_to, .int n_tl])), (p_bytes, .inl (k_bytes, 600, .inl f_bytes))] H at hP
  change va_D A [(h0, .inr (9, [.ref p_bytes, .ref p_ts, .ref p_tc, .int n_ta, .int n_to, .int n_tl])), (p_bytes, .inl (k_bytes, 600, .inl f_bytes))] at hD
  refine lv_istore_n (lv' := [(2, .int r_1), (0, .ref h0), (1, .int v1)]) hx hb dX9_beginsToken_5 rfl hl (by decide) rfl ?_
  clear hl; intro ls hl
  refine lv_iload_n hx hb dX9_beginsToken_6 rfl (lv_at hl 0 rfl) ?_
  refine lv_iconst (v := 2) hx hb dX9_beginsToken_7 (by decide) ?_
  refine lv_icmp_eq (tgt := 31) hx hb dX9_beginsToken_8 (by decide) (fun c_3 => ?_) (fun c_3 => ?_)
  · have t_4 : r_1.toInt = (2 : Int) := i_eq rfl (by decide) c_3
    refine lv_iconst (v := 1) hx hb dX9_beginsToken_31 (by decide) ?_
    refine lv_goto (tgt := 36) hx hb dX9_beginsToken_32 (by decide) ?_
    refine W.widen (k := 0) (n := 0) (Nat.le_of_ble_eq_true rfl) (Nat.le_of_ble_eq_true rfl) ?_
    have hP9 := hP.sub (ws' := [(h0, .inr (9, [.ref p_bytes, .ref p_ts, .ref p_tc, .int n_ta, .int n_to, .int n_tl])), (p_bytes, .inl (k_bytes, 600, .inl f_bytes))]) [0, 1] rfl
    have hD9 := hD.sub (ws' := [(h0, .inr (9, [.ref p_bytes, .ref p_ts, .ref p_tc, .int n_ta, .int n_to, .int n_tl])), (p_bytes, .inl (k_bytes, 600, .inl f_bytes))]) [0, 1] (by decide) rfl
    have hK9 := hK.sub (tys' := [(k_bytes, .byte)]) [0] rfl
    exact W.zret (ty := .boolean) (v := 1) hx hb hr rfl (fun t ht hW => ⟨⟨1, (), rfl, (Or.inl ⟨rfl, (lg_X9_beginsToken_0 n_ta n_to n_tl v1 r_1 yq yv h_2 t_4)⟩), ⟨by rw [ht]; exact hP9, va_K.moved hW.alike hK9, hD9⟩⟩, hS.F ht⟩) hS.2.2 dX9_beginsToken_36
  · have t_4 : ¬ r_1.toInt = (2 : Int) := i_ne rfl (by decide) c_3
    refine lv_iload_n hx hb dX9_beginsToken_11 rfl (lv_at hl 0 rfl) ?_
    refine lv_iconst (v := 3) hx hb dX9_beginsToken_12 (by decide) ?_
    refine lv_icmp_eq (tgt := 35) hx hb dX9_beginsToken_13 (by decide) (fun c_5 => ?_) (fun c_5 => ?_)
    · have t_6 : r_1.toInt = (3 : Int) := i_eq rfl (by decide) c_5
      refine lv_iconst (v := 0) hx hb dX9_beginsToken_35 (by decide) ?_
      refine W.widen (k := 0) (n := 0) (Nat.le_of_ble_eq_true rfl) (Nat.le_of_ble_eq_true rfl) ?_
      have hP9 := hP.sub (ws' := [(h0, .inr (9, [.ref p_bytes, .ref p_ts, .ref p_tc, .int n_ta, .int n_to, .int n_tl])), (p_bytes, .inl (k_bytes, 600, .inl f_bytes))]) [0, 1] rfl
      have hD9 := hD.sub (ws' := [(h0, .inr (9, [.ref p_bytes, .ref p_ts, .ref p_tc, .int n_ta, .int n_to, .int n_tl])), (p_bytes, .inl (k_bytes, 600, .inl f_bytes))]) [0, 1] (by decide) rfl
      have hK9 := hK.sub (tys' := [(k_bytes, .byte)]) [0] rfl
      exact W.zret (ty := .boolean) (v := 0) hx hb hr rfl (fun t ht hW => ⟨⟨0, (), rfl, (Or.inr (⟨rfl, (lg_X9_beginsToken_1 n_ta n_to n_tl v1 r_1 yq yv h_2 t_4 t_6)⟩)), ⟨by rw [ht]; exact hP9, va_K.moved hW.alike hK9, hD9⟩⟩, hS.F ht⟩) hS.2.2 dX9_beginsToken_36
    · have t_6 : ¬ r_1.toInt = (3 : Int) := i_ne rfl (by decide) c_5
      refine lv_iload_n hx hb dX9_beginsToken_16 rfl (lv_at hl 2 rfl) ?_
      refine lv_if_eq (tgt := 31) hx hb dX9_beginsToken_17 (by decide) (fun c_7 => ?_) (fun c_7 => ?_)
      · have t_8 : v1.toInt = (0 : Int) := i_eq rfl (by decide) c_7
        refine lv_iconst (v := 1) hx hb dX9_beginsToken_31 (by decide) ?_
        refine lv_goto (tgt := 36) hx hb dX9_beginsToken_32 (by decide) ?_
        refine W.widen (k := 0) (n := 0) (Nat.le_of_ble_eq_true rfl) (Nat.le_of_ble_eq_true rfl) ?_
        have hP9 := hP.sub (ws' := [(h0, .inr (9, [.ref p_bytes, .ref p_ts, .ref p_tc, .int n_ta, .int n_to, .int n_tl])), (p_bytes, .inl (k_bytes, 600, .inl f_bytes))]) [0, 1] rfl
        have hD9 := hD.sub (ws' := [(h0, .inr (9, [.ref p_bytes, .ref p_ts, .ref p_tc, .int n_ta, .int n_to, .int n_tl])), (p_bytes, .inl (k_bytes, 600, .inl f_bytes))]) [0, 1] (by decide) rfl
        have hK9 := hK.sub (tys' := [(k_bytes, .byte)]) [0] rfl
        exact W.zret (ty := .boolean) (v := 1) hx hb hr rfl (fun t ht hW => ⟨⟨1, (), rfl, (Or.inl ⟨rfl, (lg_X9_beginsToken_2 n_ta n_to n_tl v1 r_1 yq yv h_2 t_4 t_6 t_8)⟩), ⟨by rw [ht]; exact hP9, va_K.moved hW.alike hK9, hD9⟩⟩, hS.F ht⟩) hS.2.2 dX9_beginsToken_36
      · have t_8 : ¬ v1.toInt = (0 : Int) := i_ne rfl (by decide) c_7
        refine lv_aload_n hx hb dX9_beginsToken_20 rfl (lv_at hl 1 rfl) ?_
        refine lv_iload_n hx hb dX9_beginsToken_21 rfl (lv_at hl 2 rfl) ?_
        refine lv_iconst (v := 1) hx hb dX9_beginsToken_22 (by decide) ?_
        refine lv_isub hx hb dX9_beginsToken_23 ?_
        refine lv_topi (fun x_9 ex_10 => ?_)
        have t_11 : x_9.toInt = v1.toInt - (1 : Int) := i_sub rfl (by decide) (lg_X9_beginsToken_3 n_ta n_to n_tl v1 r_1 yq yv h_2 t_4 t_6 t_8) ex_10
        have hPc := hP.sub (ws' := [(h0, .inr (9, [.ref p_bytes, .ref p_ts, .ref p_tc, .int n_ta, .int n_to, .int n_tl])), (p_bytes, .inl (k_bytes, 600, .inl f_bytes))]) [0, 1] rfl
        have hDc := hD.sub (ws' := [(h0, .inr (9, [.ref p_bytes, .ref p_ts, .ref p_tc, .int n_ta, .int n_to, .int n_tl])), (p_bytes, .inl (k_bytes, 600, .inl f_bytes))]) [0, 1] (by decide) rfl
        have hKc := hK.sub (tys' := [(k_bytes, .byte)]) [0] rfl
        have hFc := va_free (wc := [(h0, .inr (9, [.ref p_bytes, .ref p_ts, .ref p_tc, .int n_ta, .int n_to, .int n_tl])), (p_bytes, .inl (k_bytes, 600, .inl f_bytes))]) hD hS hA [0, 1] rfl
        refine va_calli (va_runV (C := RX9) (As := [.int x_9]) (rest := []) ⟨hx, hb, hml, hown, htb⟩ (kX9_kindAt l dC dI H.size h0 p_bytes p_ts p_tc n_ta n_to n_tl k_bytes f_bytes x_9 yq) ⟨callB_of 1 htb (gd_c m_821) rfl rfl rfl (htb _ m_10) (htb _ m_818) hdX9_kindAt ⟨(Nat.le_of_ble_eq_true rfl), (Nat.le_of_ble_eq_true rfl)⟩, htb _ m_820, htb _ ms_17⟩ ⟨pcW_blind, va_recv hKc hPc (ci := 9) (q0 := 0) rfl rfl, pcW_at hPc hKc hDc hN⟩ rfl rfl hl.1 rfl (lv_room (Nat.le_of_ble_eq_true rfl)) dX9_beginsToken_24 ⟨(Nat.le_of_ble_eq_true rfl), (Nat.le_of_ble_eq_true rfl)⟩) hS (fun q _ h => hFc q h) hFc (fun r_12 u t H1 locs1 ht hvm h_13 hB hz1 hk1 hS1 => ?_)
        obtain ⟨hP1, hK1, hD1⟩ := hB
        rw [ht] at hP1
        obtain ⟨hPn, hDn⟩ := va_join (wr := []) (w1 := [(h0, .inr (9, [.ref p_bytes, .ref p_ts, .ref p_tc, .int n_ta, .int n_to, .int n_tl])), (p_bytes, .inl (k_bytes, 600, .inl f_bytes))]) hP hD [0, 1] [] rfl rfl (by decide) (by decide) hk1 hFc hP1 hD1
        clear hP1 hD1 hK1
        clear hP hD hS hPc hDc hKc hFc hk1 hz1 ht hvm
        clear t
        revert hS1 hPn hDn; generalize H1 = H; generalize locs1 = locs; intro hS hP hD
        change va_P (dC, dI) vwCl [(h0, .inr (9, [.ref p_bytes, .ref p_ts, .ref p_tc, .int n_ta, .int n_to, .int n_tl])), (p_bytes, .inl (k_bytes, 600, .inl f_bytes))] H at hP
        change va_D A [(h0, .inr (9, [.ref p_bytes, .ref p_ts, .ref p_tc, .int n_ta, .int n_to, .int n_tl])), (p_bytes, .inl (k_bytes, 600, .inl f_bytes))] at hD
        refine lv_iload_n hx hb dX9_beginsToken_27 rfl (lv_at hl 0 rfl) ?_
        refine lv_icmp_eq (tgt := 35) hx hb dX9_beginsToken_28 (by decide) (fun c_14 => ?_) (fun c_14 => ?_)
        · have t_15 : r_12.toInt = r_1.toInt := i_eq rfl rfl c_14
          refine lv_iconst (v := 0) hx hb dX9_beginsToken_35 (by decide) ?_
          refine W.widen (k := 0) (n := 0) (Nat.le_of_ble_eq_true rfl) (Nat.le_of_ble_eq_true rfl) ?_
          have hP9 := hP.sub (ws' := [(h0, .inr (9, [.ref p_bytes, .ref p_ts, .ref p_tc, .int n_ta, .int n_to, .int n_tl])), (p_bytes, .inl (k_bytes, 600, .inl f_bytes))]) [0, 1] rfl
          have hD9 := hD.sub (ws' := [(h0, .inr (9, [.ref p_bytes, .ref p_ts, .ref p_tc, .int n_ta, .int n_to, .int n_tl])), (p_bytes, .inl (k_bytes, 600, .inl f_bytes))]) [0, 1] (by decide) rfl
          have hK9 := hK.sub (tys' := [(k_bytes, .byte)]) [0] rfl
          exact W.zret (ty := .boolean) (v := 0) hx hb hr rfl (fun t ht hW => ⟨⟨0, (), rfl, (Or.inr (⟨rfl, (lg_X9_beginsToken_4 n_ta n_to n_tl v1 r_1 x_9 r_12 yq yv h_2 t_4 t_6 t_8 t_11 h_13 t_15)⟩)), ⟨by rw [ht]; exact hP9, va_K.moved hW.alike hK9, hD9⟩⟩, hS.F ht⟩) hS.2.2 dX9_beginsToken_36
        · have t_15 : ¬ r_12.toInt = r_1.toInt := i_ne rfl rfl c_14
          refine lv_iconst (v := 1) hx hb dX9_beginsToken_31 (by decide) ?_
          refine lv_goto (tgt := 36) hx hb dX9_beginsToken_32 (by decide) ?_
          refine W.widen (k := 0) (n := 0) (Nat.le_of_ble_eq_true rfl) (Nat.le_of_ble_eq_true rfl) ?_
          have hP9 := hP.sub (ws' := [(h0, .inr (9, [.ref p_bytes, .ref p_ts, .ref p_tc, .int n_ta, .int n_to, .int n_tl])), (p_bytes, .inl (k_bytes, 600, .inl f_bytes))]) [0, 1] rfl
          have hD9 := hD.sub (ws' := [(h0, .inr (9, [.ref p_bytes, .ref p_ts, .ref p_tc, .int n_ta, .int n_to, .int n_tl])), (p_bytes, .inl (k_bytes, 600, .inl f_bytes))]) [0, 1] (by decide) rfl
          have hK9 := hK.sub (tys' := [(k_bytes, .byte)]) [0] rfl
          exact W.zret (ty := .boolean) (v := 1) hx hb hr rfl (fun t ht hW => ⟨⟨1, (), rfl, (Or.inl ⟨rfl, (lg_X9_beginsToken_5 n_ta n_to n_tl v1 r_1 x_9 r_12 yq yv h_2 t_4 t_6 t_8 t_11 h_13 t_15)⟩), ⟨by rw [ht]; exact hP9, va_K.moved hW.alike hK9, hD9⟩⟩, hS.F ht⟩) hS.2.2 dX9_beginsToken_36

theorem lg_X9_codeOfSign_0 (n_ta : Int32) (n_to : Int32) (n_tl : Int32) (v1 : Int32) (yq : 0 ≤ n_ta.toInt ∧ n_ta.toInt ≤ 600 ∧ 0 ≤ n_to.toInt ∧ n_to.toInt ≤ 600 ∧ 0 ≤ n_tl.toInt ∧ n_tl.toInt ≤ 600) (t_2 : v1.toInt < (0 : Int)) : True := by
  have := rg_rng n_ta; have := rg_rng n_to; have := rg_rng n_tl; have := rg_rng v1; trivial
theorem lg_X9_codeOfSign_1 (n_ta : Int32) (n_to : Int32) (n_tl : Int32) (v1 : Int32) (yq : 0 ≤ n_ta.toInt ∧ n_ta.toInt ≤ 600 ∧ 0 ≤ n_to.toInt ∧ n_to.toInt ≤ 600 ∧ 0 ≤ n_tl.toInt ∧ n_tl.toInt ≤ 600) (t_2 : (0 : Int) ≤ v1.toInt) (t_8 : n_tl.toInt ≤ v1.toInt) : True := by
  have := rg_rng n_ta; have := rg_rng n_to; have := rg_rng n_tl; have := rg_rng v1; trivial
theorem lg_X9_codeOfSign_2 (n_ta : Int32) (n_to : Int32) (n_tl : Int32) (v1 : Int32) (yq : 0 ≤ n_ta.toInt ∧ n_ta.toInt ≤ 600 ∧ 0 ≤ n_to.toInt ∧ n_to.toInt ≤ 600 ∧ 0 ≤ n_tl.toInt ∧ n_tl.toInt ≤ 600) (t_2 : (0 : Int) ≤ v1.toInt) (t_8 : v1.toInt < n_tl.toInt) : 0 ≤ v1.toInt ∧ v1.toInt < ((600 : Nat) : Int) := by
  have := rg_rng n_ta; have := rg_rng n_to; have := rg_rng n_tl; have := rg_rng v1; omega
theorem lg_X9_codeOfSign_3 (n_ta : Int32) (n_to : Int32) (n_tl : Int32) (v1 : Int32) (x_13 : Int32) (yq : 0 ≤ n_ta.toInt ∧ n_ta.toInt ≤ 600 ∧ 0 ≤ n_to.toInt ∧ n_to.toInt ≤ 600 ∧ 0 ≤ n_tl.toInt ∧ n_tl.toInt ≤ 600) (t_2 : (0 : Int) ≤ v1.toInt) (t_8 : v1.toInt < n_tl.toInt) (t_16 : x_13.toInt = (60 : Int)) : True := by
  have := rg_rng n_ta; have := rg_rng n_to; have := rg_rng n_tl; have := rg_rng v1; have := rg_rng x_13; trivial
theorem lg_X9_codeOfSign_4 (n_ta : Int32) (n_to : Int32) (n_tl : Int32) (v1 : Int32) (x_13 : Int32) (yq : 0 ≤ n_ta.toInt ∧ n_ta.toInt ≤ 600 ∧ 0 ≤ n_to.toInt ∧ n_to.toInt ≤ 600 ∧ 0 ≤ n_tl.toInt ∧ n_tl.toInt ≤ 600) (t_2 : (0 : Int) ≤ v1.toInt) (t_8 : v1.toInt < n_tl.toInt) (t_16 : ¬ x_13.toInt = (60 : Int)) (t_18 : x_13.toInt = (62 : Int)) : True := by
  have := rg_rng n_ta; have := rg_rng n_to; have := rg_rng n_tl; have := rg_rng v1; have := rg_rng x_13; trivial
theorem lg_X9_codeOfSign_5 (n_ta : Int32) (n_to : Int32) (n_tl : Int32) (v1 : Int32) (x_13 : Int32) (yq : 0 ≤ n_ta.toInt ∧ n_ta.toInt ≤ 600 ∧ 0 ≤ n_to.toInt ∧ n_to.toInt ≤ 600 ∧ 0 ≤ n_tl.toInt ∧ n_tl.toInt ≤ 600) (t_2 : (0 : Int) ≤ v1.toInt) (t_8 : v1.toInt < n_tl.toInt) (t_16 : ¬ x_13.toInt = (60 : Int)) (t_18 : ¬ x_13.toInt = (62 : Int)) (t_20 : x_13.toInt = (61 : Int)) : True := by
  have := rg_rng n_ta; have := rg_rng n_to; have := rg_rng n_tl; have := rg_rng v1; have := rg_rng x_13; trivial
theorem lg_X9_codeOfSign_6 (n_ta : Int32) (n_to : Int32) (n_tl : Int32) (v1 : Int32) (x_13 : Int32) (yq : 0 ≤ n_ta.toInt ∧ n_ta.toInt ≤ 600 ∧ 0 ≤ n_to.toInt ∧ n_to.toInt ≤ 600 ∧ 0 ≤ n_tl.toInt ∧ n_tl.toInt ≤ 600) (t_2 : (0 : Int) ≤ v1.toInt) (t_8 : v1.toInt < n_tl.toInt) (t_16 : ¬ x_13.toInt = (60 : Int)) (t_18 : ¬ x_13.toInt = (62 : Int)) (t_20 : ¬ x_13.toInt = (61 : Int)) (t_22 : ¬ x_13.toInt = (59 : Int)) : True := by
  have := rg_rng n_ta; have := rg_rng n_to; have := rg_rng n_tl; have := rg_rng v1; have := rg_rng x_13; trivial
theorem lg_X9_codeOfSign_7 (n_ta : Int32) (n_to : Int32) (n_tl : Int32) (v1 : Int32) (x_13 : Int32) (yq : 0 ≤ n_ta.toInt ∧ n_ta.toInt ≤ 600 ∧ 0 ≤ n_to.toInt ∧ n_to.toInt ≤ 600 ∧ 0 ≤ n_tl.toInt ∧ n_tl.toInt ≤ 600) (t_2 : (0 : Int) ≤ v1.toInt) (t_8 : v1.toInt < n_tl.toInt) (t_16 : ¬ x_13.toInt = (60 : Int)) (t_18 : ¬ x_13.toInt = (62 : Int)) (t_20 : ¬ x_13.toInt = (61 : Int)) (t_22 : x_13.toInt = (59 : Int)) : True := by
  have := rg_rng n_ta; have := rg_rng n_to; have := rg_rng n_tl; have := rg_rng v1; have := rg_rng x_13; trivial
set_option maxHeartbeats 4000000 in
set_option maxRecDepth 100000 in
theorem kX9_codeOfSign (l : Launch) (dC : Nat → ClassId) (dI : Nat → Nat → Nat) (sz : Nat) (h0 : Nat) (p_bytes : Nat) (p_ts : Nat) (p_tc : Nat) (n_ta : Int32) (n_to : Int32) (n_tl : Int32) (k_bytes : ClassId) (f_bytes : Nat → Int32) (v1 : Int32) (yq : 0 ≤ n_ta.toInt ∧ n_ta.toInt ≤ 600 ∧ 0 ≤ n_to.toInt ∧ n_to.toInt ≤ 600 ∧ 0 ≤ n_tl.toInt ∧ n_tl.toInt ≤ 600) : Met l yX9_codeOfSign (Cond.code yX9_codeOfSign cX9_codeOfSign 3 (some .int) :: bg) ({ frames := 0, cells := 0, slots := 0, locals := 0 }) (pcW dC dI [.ref h0, .int v1] sz [(h0, .inr (9, [.ref p_bytes, .ref p_ts, .ref p_tc, .int n_ta, .int n_to, .int n_tl])), (p_bytes, .inl (k_bytes, 600, .inl f_bytes))] [(k_bytes, .byte)]) (va_Qi (fun (r : Int32) (u : Unit) => True) (fun (u : Unit) (t : State) => va_P (dC, dI) vwCl [(h0, .inr (9, [.ref p_bytes, .ref p_ts, .ref p_tc, .int n_ta, .int n_to, .int n_tl])), (p_bytes, .inl (k_bytes, 600, .inl f_bytes))] t.heap ∧ va_K (dC, dI) vwCl [(k_bytes, .byte)] t ∧ va_D (va_A [(h0, .inr (9, [.ref p_bytes, .ref p_ts, .ref p_tc, .int n_ta, .int n_to, .int n_tl])), (p_bytes, .inl (k_bytes, 600, .inl f_bytes))] sz) [(h0, .inr (9, [.ref p_bytes, .ref p_ts, .ref p_tc, .int n_ta, .int n_to, .int n_tl])), (p_bytes, .inl (k_bytes, 600, .inl f_bytes))]) (va_A [(h0, .inr (9, [.ref p_bytes, .ref p_ts, .ref p_tc, .int n_ta, .int n_to, .int n_tl])), (p_bytes, .inl (k_bytes, 600, .inl f_bytes))] sz)) 0 0 (va_A [(h0, .inr (9, [.ref p_bytes, .ref p_ts, .ref p_tc, .int n_ta, .int n_to, .int n_tl])), (p_bytes, .inl (k_bytes, 600, .inl f_bytes))] sz) := by
  refine Met.ofW (cc := cX9_codeOfSign) (maxL := 3) (ret := (some .int)) pnX9 rfl ?_
  intro p e s m args below meth c s₁ B hml hv
  obtain ⟨rfl, hsz, hP, hK, hD0, hN⟩ := hv
  have hx := B.exec
  have hb := B.bytes
  have hr := B.returns
  have htb : ∀ w ∈ bg, w.before [.ref h0, .int v1].toArray s = true := fun w h => atoms_spec (ws := Cond.code yX9_codeOfSign cX9_codeOfSign 3 (some .int) :: bg) B.pre w (List.mem_cons_of_mem _ h)
  have hown : s.vm.findClass RX9 = some m.cls := findClass_of_methodNamed B.named
  have hlocks := B.notSynchronized
  subst hsz
  have hD := hD0.self (sz := s.heap.size)
  generalize hAe : va_A [(h0, .inr (9, [.ref p_bytes, .ref p_ts, .ref p_tc, .int n_ta, .int n_to, .int n_tl])), (p_bytes, .inl (k_bytes, 600, .inl f_bytes))] s.heap.size = A at hD ⊢
  have hA : ∀ q : Nat, s.heap.size ≤ q → A q := fun q h => by rw [← hAe]; exact Or.inr h
  have hS : va_S A s.heap s.heap [] := va_S.rf
  have hl := lv_entry ([.ref h0, .int v1]) (n := 3) (Nat.le_of_ble_eq_true rfl)
  rw [lg_entry_eq]
  generalize (lg_sl ([.ref h0, .int v1]) ++ List.replicate (3 - (lg_sl ([.ref h0, .int v1])).length) Slot.unset).toArray = ls at hl ⊢
  change lv_has ls 3 [(0, .ref h0), (1, .int v1)] at hl
  clear hD0 hAe
  refine go0 (wsP := fun H => va_P (dC, dI) vwCl [(h0, .inr (9, [.ref p_bytes, .ref p_ts, .ref p_tc, .int n_ta, .int n_to, .int n_tl])), (p_bytes, .inl (k_bytes, 600, .inl f_bytes))] H) hP hS ?_
  clear hP hS; intro H locs hP hS
  change va_P (dC, dI) vwCl [(h0, .inr (9, [.ref p_bytes, .ref p_ts, .ref p_tc, .int n_ta, .int n_to, .int n_tl])), (p_bytes, .inl (k_bytes, 600, .inl f_bytes))] H at hP
  refine lv_iload_n hx hb dX9_codeOfSign_0 rfl (lv_at hl 1 rfl) ?_
  refine lv_if_lt (tgt := 21) hx hb dX9_codeOfSign_1 (by decide) (fun c_1 => ?_) (fun c_1 => ?_)
  · have t_2 : v1.toInt < (0 : Int) := i_lt rfl (by decide) c_1
    refine lv_iconst (v := (-1)) hx hb dX9_codeOfSign_21 (by decide) ?_
    refine lv_istore_n (lv' := [(2, .int (-1)), (0, .ref h0), (1, .int v1)]) hx hb dX9_codeOfSign_22 rfl hl (by decide) rfl ?_
    clear hl; intro ls hl
    refine lv_iload_n hx hb dX9_codeOfSign_23 rfl (lv_at hl 0 rfl) ?_
    refine lv_bipush (v := 60) hx hb dX9_codeOfSign_24 (by decide) ?_
    refine lv_icmp_eq (tgt := 47) hx hb dX9_codeOfSign_26 (by decide) (fun c_3 => absurd c_3 (by decide)) ?_
    intro _
    refine lv_iload_n hx hb dX9_codeOfSign_29 rfl (lv_at hl 0 rfl) ?_
    refine lv_bipush (v := 62) hx hb dX9_codeOfSign_30 (by decide) ?_
    refine lv_icmp_eq (tgt := 47) hx hb dX9_codeOfSign_32 (by decide) (fun c_4 => absurd c_4 (by decide)) ?_
    intro _
    refine lv_iload_n hx hb dX9_codeOfSign_35 rfl (lv_at hl 0 rfl) ?_
    refine lv_bipush (v := 61) hx hb dX9_codeOfSign_36 (by decide) ?_
    refine lv_icmp_eq (tgt := 47) hx hb dX9_codeOfSign_38 (by decide) (fun c_5 => absurd c_5 (by decide)) ?_
    intro _
    refine lv_iload_n hx hb dX9_codeOfSign_41 rfl (lv_at hl 0 rfl) ?_
    refine lv_bipush (v := 59) hx hb dX9_codeOfSign_42 (by decide) ?_
    refine lv_icmp_ne (tgt := 51) hx hb dX9_codeOfSign_44 (by decide) ?_ (fun c_6 => absurd c_6 (by decide))
    intro _
    refine lv_iconst (v := (-1)) hx hb dX9_codeOfSign_51 (by decide) ?_
    refine W.widen (k := 0) (n := 0) (Nat.le_of_ble_eq_true rfl) (Nat.le_of_ble_eq_true rfl) ?_
    have hP9 := hP.sub (ws' := [(h0, .inr (9, [.ref p_bytes, .ref p_ts, .ref p_tc, .int n_ta, .int n_to, .int n_tl])), (p_bytes, .inl (k_bytes, 600, .inl f_bytes))]) [0, 1] rfl
    have hD9 := hD.sub (ws' := [(h0, .inr (9, [.ref p_bytes, .ref p_ts, .ref p_tc, .int n_ta, .int n_to, .int n_tl])), (p_bytes, .inl (k_bytes, 600, .inl f_bytes))]) [0, 1] (by decide) rfl
    have hK9 := hK.sub (tys' := [(k_bytes, .byte)]) [0] rfl
    exact W.iret (v := (-1)) hx hb hr (fun t ht hW => ⟨⟨(-1), (), rfl, (lg_X9_codeOfSign_0 n_ta n_to n_tl v1 yq t_2), ⟨by rw [ht]; exact hP9, va_K.moved hW.alike hK9, hD9⟩⟩, hS.F ht⟩) hS.2.2 dX9_codeOfSign_52
  · have t_2 : (0 : Int) ≤ v1.toInt := i_nlt rfl (by decide) c_1
    refine lv_iload_n hx hb dX9_codeOfSign_4 rfl (lv_at hl 1 rfl) ?_
    refine lv_aload_n hx hb dX9_codeOfSign_5 rfl (lv_at hl 0 rfl) ?_
    refine va_get (D := (dC, dI)) (ci := 9) (v := .int n_tl) (C := RX9) (T := TX9) (N := 6) hx hb htb iX9 hown hK hP 0 rfl rfl 5 (Nat.le_of_ble_eq_true rfl) (htb _ m_242) (fun _ h9 => h9) rfl dX9_codeOfSign_6 ?_
    refine lv_icmp_ge (tgt := 21) hx hb dX9_codeOfSign_9 (by decide) (fun c_7 => ?_) (fun c_7 => ?_)
    · have t_8 : n_tl.toInt ≤ v1.toInt := i_le rfl rfl c_7
      refine lv_iconst (v := (-1)) hx hb dX9_codeOfSign_21 (by decide) ?_
      refine lv_istore_n (lv' := [(2, .int (-1)), (0, .ref h0), (1, .int v1)]) hx hb dX9_codeOfSign_22 rfl hl (by decide) rfl ?_
      clear hl; intro ls hl
      refine lv_iload_n hx hb dX9_codeOfSign_23 rfl (lv_at hl 0 rfl) ?_
      refine lv_bipush (v := 60) hx hb dX9_codeOfSign_24 (by decide) ?_
      refine lv_icmp_eq (tgt := 47) hx hb dX9_codeOfSign_26 (by decide) (fun c_9 => absurd c_9 (by decide)) ?_
      intro _
      refine lv_iload_n hx hb dX9_codeOfSign_29 rfl (lv_at hl 0 rfl) ?_
      refine lv_bipush (v := 62) hx hb dX9_codeOfSign_30 (by decide) ?_
      refine lv_icmp_eq (tgt := 47) hx hb dX9_codeOfSign_32 (by decide) (fun c_10 => absurd c_10 (by decide)) ?_
      intro _
      refine lv_iload_n hx hb dX9_codeOfSign_35 rfl (lv_at hl 0 rfl) ?_
      refine lv_bipush (v := 61) hx hb dX9_codeOfSign_36 (by decide) ?_
      refine lv_icmp_eq (tgt := 47) hx hb dX9_codeOfSign_38 (by decide) (fun c_11 => absurd c_11 (by decide)) ?_
      intro _
      refine lv_iload_n hx hb dX9_codeOfSign_41 rfl (lv_at hl 0 rfl) ?_
      refine lv_bipush (v := 59) hx hb dX9_codeOfSign_42 (by decide) ?_
      refine lv_icmp_ne (tgt := 51) hx hb dX9_codeOfSign_44 (by decide) ?_ (fun c_12 => absurd c_12 (by decide))
      intro _
      refine lv_iconst (v := (-1)) hx hb dX9_codeOfSign_51 (by decide) ?_
      refine W.widen (k := 0) (n := 0) (Nat.le_of_ble_eq_true rfl) (Nat.le_of_ble_eq_true rfl) ?_
      have hP9 := hP.sub (ws' := [(h0, .inr (9, [.ref p_bytes, .ref p_ts, .ref p_tc, .int n_ta, .int n_to, .int n_tl])), (p_bytes, .inl (k_bytes, 600, .inl f_bytes))]) [0, 1] rfl
      have hD9 := hD.sub (ws' := [(h0, .inr (9, [.ref p_bytes, .ref p_ts, .ref p_tc, .int n_ta, .int n_to, .int n_tl])), (p_bytes, .inl (k_bytes, 600, .inl f_bytes))]) [0, 1] (by decide) rfl
      have hK9 := hK.sub (tys' := [(k_bytes, .byte)]) [0] rfl
      exact W.iret (v := (-1)) hx hb hr (fun t ht hW => ⟨⟨(-1), (), rfl, (lg_X9_codeOfSign_1 n_ta n_to n_tl v1 yq t_2 t_8), ⟨by rw [ht]; exact hP9, va_K.moved hW.alike hK9, hD9⟩⟩, hS.F ht⟩) hS.2.2 dX9_codeOfSign_52
    · have t_8 : v1.toInt < n_tl.toInt := i_nle rfl rfl c_7
      refine lv_aload_n hx hb dX9_codeOfSign_12 rfl (lv_at hl 0 rfl) ?_
      refine va_get (D := (dC, dI)) (ci := 9) (v := .ref p_bytes) (C := RX9) (T := TX9) (N := 6) hx hb htb iX9 hown hK hP 0 rfl rfl 0 (Nat.le_of_ble_eq_true rfl) (htb _ m_236) (fun _ h9 => h9) rfl dX9_codeOfSign_13 ?_
      refine lv_iload_n hx hb dX9_codeOfSign_16 rfl (lv_at hl 1 rfl) ?_
      refine va_bald hx hb hK hP 1 0 rfl rfl (i_in rfl (lg_X9_codeOfSign_2 n_ta n_to n_tl v1 yq t_2 t_8)) dX9_codeOfSign_17 ?_
      refine lv_topi (fun x_13 ex_14 => ?_)
      refine lv_goto (tgt := 22) hx hb dX9_codeOfSign_18 (by decide) ?_
      refine lv_istore_n (lv' := [(2, .int x_13), (0, .ref h0), (1, .int v1)]) hx hb dX9_codeOfSign_22 rfl hl (by decide) rfl ?_
      clear hl; intro ls hl
      refine lv_iload_n hx hb dX9_codeOfSign_23 rfl (lv_at hl 0 rfl) ?_
      refine lv_bipush (v := 60) hx hb dX9_codeOfSign_24 (by decide) ?_
      refine lv_icmp_eq (tgt := 47) hx hb dX9_codeOfSign_26 (by decide) (fun c_15 => ?_) (fun c_15 => ?_)
      · have t_16 : x_13.toInt = (60 : Int) := i_eq rfl (by decide) c_15
        refine lv_iload_n hx hb dX9_codeOfSign_47 rfl (lv_at hl 0 rfl) ?_
        refine lv_goto (tgt := 52) hx hb dX9_codeOfSign_48 (by decide) ?_
        refine W.widen (k := 0) (n := 0) (Nat.le_of_ble_eq_true rfl) (Nat.le_of_ble_eq_true rfl) ?_
        have hP9 := hP.sub (ws' := [(h0, .inr (9, [.ref p_bytes, .ref p_ts, .ref p_tc, .int n_ta, .int n_to, .int n_tl])), (p_bytes, .inl (k_bytes, 600, .inl f_bytes))]) [0, 1] rfl
        have hD9 := hD.sub (ws' := [(h0, .inr (9, [.ref p_bytes, .ref p_ts, .ref p_tc, .int n_ta, .int n_to, .int n_tl])), (p_bytes, .inl (k_bytes, 600, .inl f_bytes))]) [0, 1] (by decide) rfl
        have hK9 := hK.sub (tys' := [(k_bytes, .byte)]) [0] rfl
        exact W.iret (v := x_13) hx hb hr (fun t ht hW => ⟨⟨x_13, (), rfl, (lg_X9_codeOfSign_3 n_ta n_to n_tl v1 x_13 yq t_2 t_8 t_16), ⟨by rw [ht]; exact hP9, va_K.moved hW.alike hK9, hD9⟩⟩, hS.F ht⟩) hS.2.2 dX9_codeOfSign_52
      · have t_16 : ¬ x_13.toInt = (60 : Int) := i_ne rfl (by decide) c_15
        refine lv_iload_n hx hb dX9_codeOfSign_29 rfl (lv_at hl 0 rfl) ?_
        refine lv_bipush (v := 62) hx hb dX9_codeOfSign_30 (by decide) ?_
        refine lv_icmp_eq (tgt := 47) hx hb dX9_codeOfSign_32 (by decide) (fun c_17 => ?_) (fun c_17 => ?_)
        · have t_18 : x_13.toInt = (62 : Int) := i_eq rfl (by decide) c_17
          refine lv_iload_n hx hb dX9_codeOfSign_47 rfl (lv_at hl 0 rfl) ?_
          refine lv_goto (tgt := 52) hx hb dX9_codeOfSign_48 (by decide) ?_
          refine W.widen (k := 0) (n := 0) (Nat.le_of_ble_eq_true rfl) (Nat.le_of_ble_eq_true rfl) ?_
          have hP9 := hP.sub (ws' := [(h0, .inr (9, [.ref p_bytes, .ref p_ts, .ref p_tc, .int n_ta, .int n_to, .int n_tl])), (p_bytes, .inl (k_bytes, 600, .inl f_bytes))]) [0, 1] rfl
          have hD9 := hD.sub (ws' := [(h0, .inr (9, [.ref p_bytes, .ref p_ts, .ref p_tc, .int n_ta, .int n_to, .int n_tl])), (p_bytes, .inl (k_bytes, 600, .inl f_bytes))]) [0, 1] (by decide) rfl
          have hK9 := hK.sub (tys' := [(k_bytes, .byte)]) [0] rfl
          exact W.iret (v := x_13) hx hb hr (fun t ht hW => ⟨⟨x_13, (), rfl, (lg_X9_codeOfSign_4 n_ta n_to n_tl v1 x_13 yq t_2 t_8 t_16 t_18), ⟨by rw [ht]; exact hP9, va_K.moved hW.alike hK9, hD9⟩⟩, hS.F ht⟩) hS.2.2 dX9_codeOfSign_52
        · have t_18 : ¬ x_13.toInt = (62 : Int) := i_ne rfl (by decide) c_17
          refine lv_iload_n hx hb dX9_codeOfSign_35 rfl (lv_at hl 0 rfl) ?_
          refine lv_bipush (v := 61) hx hb dX9_codeOfSign_36 (by decide) ?_
          refine lv_icmp_eq (tgt := 47) hx hb dX9_codeOfSign_38 (by decide) (fun c_19 => ?_) (fun c_19 => ?_)
          · have t_20 : x_13.toInt = (61 : Int) := i_eq rfl (by decide) c_19
            refine lv_iload_n hx hb dX9_codeOfSign_47 rfl (lv_at hl 0 rfl) ?_
            refine lv_goto (tgt := 52) hx hb dX9_codeOfSign_48 (by decide) ?_
            refine W.widen (k := 0) (n := 0) (Nat.le_of_ble_eq_true rfl) (Nat.le_of_ble_eq_true rfl) ?_
            have hP9 := hP.sub (ws' := [(h0, .inr (9, [.ref p_bytes, .ref p_ts, .ref p_tc, .int n_ta, .int n_to, .int n_tl])), (p_bytes, .inl (k_bytes, 600, .inl f_bytes))]) [0, 1] rfl
            have hD9 := hD.sub (ws' := [(h0, .inr (9, [.ref p_bytes, .ref p_ts, .ref p_tc, .int n_ta, .int n_to, .int n_tl])), (p_bytes, .inl (k_bytes, 600, .inl f_bytes))]) [0, 1] (by decide) rfl
            have hK9 := hK.sub (tys' := [(k_bytes, .byte)]) [0] rfl
            exact W.iret (v := x_13) hx hb hr (fun t ht hW => ⟨⟨x_13, (), rfl, (lg_X9_codeOfSign_5 n_ta n_to n_tl v1 x_13 yq t_2 t_8 t_16 t_18 t_20), ⟨by rw [ht]; exact hP9, va_K.moved hW.alike hK9, hD9⟩⟩, hS.F ht⟩) hS.2.2 dX9_codeOfSign_52
          · have t_20 : ¬ x_13.toInt = (61 : Int) := i_ne rfl (by decide) c_19
            refine lv_iload_n hx hb dX9_codeOfSign_41 rfl (lv_at hl 0 rfl) ?_
            refine lv_bipush (v := 59) hx hb dX9_codeOfSign_42 (by decide) ?_
            refine lv_icmp_ne (tgt := 51) hx hb dX9_codeOfSign_44 (by decide) (fun c_21 => ?_) (fun c_21 => ?_)
            · have t_22 : ¬ x_13.toInt = (59 : Int) := i_ne rfl (by decide) c_21
              refine lv_iconst (v := (-1)) hx hb dX9_codeOfSign_51 (by decide) ?_
              refine W.widen (k := 0) (n := 0) (Nat.le_of_ble_eq_true rfl) (Nat.le_of_ble_eq_true rfl) ?_
              have hP9 := hP.sub (ws' := [(h0, .inr (9, [.ref p_bytes, .ref p_ts, .ref p_tc, .int n_ta, .int n_to, .int n_tl])), (p_bytes, .inl (k_bytes, 600, .inl f_bytes))]) [0, 1] rfl
              have hD9 := hD.sub (ws' := [(h0, .inr (9, [.ref p_bytes, .ref p_ts, .ref p_tc, .int n_ta, .int n_to, .int n_tl])), (p_bytes, .inl (k_bytes, 600, .inl f_bytes))]) [0, 1] (by decide) rfl
              have hK9 := hK.sub (tys' := [(k_bytes, .byte)]) [0] rfl
              exact W.iret (v := (-1)) hx hb hr (fun t ht hW => ⟨⟨(-1), (), rfl, (lg_X9_codeOfSign_6 n_ta n_to n_tl v1 x_13 yq t_2 t_8 t_16 t_18 t_20 t_22), ⟨by rw [ht]; exact hP9, va_K.moved hW.alike hK9, hD9⟩⟩, hS.F ht⟩) hS.2.2 dX9_codeOfSign_52
            · have t_22 : x_13.toInt = (59 : Int) := i_eq rfl (by decide) c_21
              refine lv_iload_n hx hb dX9_codeOfSign_47 rfl (lv_at hl 0 rfl) ?_
              refine lv_goto (tgt := 52) hx hb dX9_codeOfSign_48 (by decide) ?_
              refine W.widen (k := 0) (n := 0) (Nat.le_of_ble_eq_true rfl) (Nat.le_of_ble_eq_true rfl) ?_
              have hP9 := hP.sub (ws' := [(h0, .inr (9, [.ref p_bytes, .ref p_ts, .ref p_tc, .int n_ta, .int n_to, .int n_tl])), (p_bytes, .inl (k_bytes, 600, .inl f_bytes))]) [0, 1] rfl
              have hD9 := hD.sub (ws' := [(h0, .inr (9, [.ref p_bytes, .ref p_ts, .ref p_tc, .int n_ta, .int n_to, .int n_tl])), (p_bytes, .inl (k_bytes, 600, .inl f_bytes))]) [0, 1] (by decide) rfl
              have hK9 := hK.sub (tys' := [(k_bytes, .byte)]) [0] rfl
              exact W.iret (v := x_13) hx hb hr (fun t ht hW => ⟨⟨x_13, (), rfl, (lg_X9_codeOfSign_7 n_ta n_to n_tl v1 x_13 yq t_2 t_8 t_16 t_18 t_20 t_22), ⟨by rw [ht]; exact hP9, va_K.moved hW.alike hK9, hD9⟩⟩, hS.F ht⟩) hS.2.2 dX9_codeOfSign_52

theorem lg_X9_codeOfNumber_0 (n_ta : Int32) (n_to : Int32) (n_tl : Int32) (v1 : Int32) (yq : 0 ≤ n_ta.toInt ∧ n_ta.toInt ≤ 600 ∧ 0 ≤ n_to.toInt ∧ n_to.toInt ≤ 600 ∧ 0 ≤ n_tl.toInt ∧ n_tl.toInt ≤ 600) (yv : 0 ≤ v1.toInt ∧ v1.toInt < n_tl.toInt) : (n_tl.toInt - v1.toInt) < ((Int.toNat (n_tl.toInt - v1.toInt) + 1 : Nat) : Int) := by
  have := rg_rng n_ta; have := rg_rng n_to; have := rg_rng n_tl; have := rg_rng v1; omega
theorem lg_X9_codeOfNumber_1 (n_ta : Int32) (n_to : Int32) (n_tl : Int32) (v1 : Int32) (yq : 0 ≤ n_ta.toInt ∧ n_ta.toInt ≤ 600 ∧ 0 ≤ n_to.toInt ∧ n_to.toInt ≤ 600 ∧ 0 ≤ n_tl.toInt ∧ n_tl.toInt ≤ 600) (yv : 0 ≤ v1.toInt ∧ v1.toInt < n_tl.toInt) : 0 ≤ v1.toInt ∧ v1.toInt ≤ n_tl.toInt := by
  have := rg_rng n_ta; have := rg_rng n_to; have := rg_rng n_tl; have := rg_rng v1; omega
theorem lg_X9_codeOfNumber_2 (n_ta : Int32) (n_to : Int32) (n_tl : Int32) (v1 : Int32) (i_1 : Int32) (yq : 0 ≤ n_ta.toInt ∧ n_ta.toInt ≤ 600 ∧ 0 ≤ n_to.toInt ∧ n_to.toInt ≤ 600 ∧ 0 ≤ n_tl.toInt ∧ n_tl.toInt ≤ 600) (yv : 0 ≤ v1.toInt ∧ v1.toInt < n_tl.toInt) (hi1_0 : 0 ≤ i_1.toInt ∧ i_1.toInt ≤ n_tl.toInt) (hmu1 : (n_tl.toInt - i_1.toInt) < ((0 : Nat) : Int)) : False := by
  have := rg_rng n_ta; have := rg_rng n_to; have := rg_rng n_tl; have := rg_rng v1; have := rg_rng i_1; omega
theorem lg_X9_codeOfNumber_3 (n_ta : Int32) (n_to : Int32) (n_tl : Int32) (v1 : Int32) (i_1 : Int32) (n1 : Nat) (yq : 0 ≤ n_ta.toInt ∧ n_ta.toInt ≤ 600 ∧ 0 ≤ n_to.toInt ∧ n_to.toInt ≤ 600 ∧ 0 ≤ n_tl.toInt ∧ n_tl.toInt ≤ 600) (yv : 0 ≤ v1.toInt ∧ v1.toInt < n_tl.toInt) (hi1_0 : 0 ≤ i_1.toInt ∧ i_1.toInt ≤ n_tl.toInt) (hmu1 : (n_tl.toInt - i_1.toInt) < ((n1 + 1 : Nat) : Int)) (t_3 : n_tl.toInt ≤ i_1.toInt) : True := by
  have := rg_rng n_ta; have := rg_rng n_to; have := rg_rng n_tl; have := rg_rng v1; have := rg_rng i_1; trivial
theorem lg_X9_codeOfNumber_4 (n_ta : Int32) (n_to : Int32) (n_tl : Int32) (v1 : Int32) (i_1 : Int32) (n1 : Nat) (r_7 : Int32) (yq : 0 ≤ n_ta.toInt ∧ n_ta.toInt ≤ 600 ∧ 0 ≤ n_to.toInt ∧ n_to.toInt ≤ 600 ∧ 0 ≤ n_tl.toInt ∧ n_tl.toInt ≤ 600) (yv : 0 ≤ v1.toInt ∧ v1.toInt < n_tl.toInt) (hi1_0 : 0 ≤ i_1.toInt ∧ i_1.toInt ≤ n_tl.toInt) (hmu1 : (n_tl.toInt - i_1.toInt) < ((n1 + 1 : Nat) : Int)) (t_3 : i_1.toInt < n_tl.toInt) (h_8 : 0 ≤ r_7.toInt ∧ r_7.toInt ≤ 3) (t_10 : ¬ r_7.toInt = (1 : Int)) : True := by
  have := rg_rng n_ta; have := rg_rng n_to; have := rg_rng n_tl; have := rg_rng v1; have := rg_rng i_1; have := rg_rng r_7; trivial
theorem lg_X9_codeOfNumber_5 (n_ta : Int32) (n_to : Int32) (n_tl : Int32) (v1 : Int32) (i_1 : Int32) (n1 : Nat) (r_7 : Int32) (yq : 0 ≤ n_ta.toInt ∧ n_ta.toInt ≤ 600 ∧ 0 ≤ n_to.toInt ∧ n_to.toInt ≤ 600 ∧ 0 ≤ n_tl.toInt ∧ n_tl.toInt ≤ 600) (yv : 0 ≤ v1.toInt ∧ v1.toInt < n_tl.toInt) (hi1_0 : 0 ≤ i_1.toInt ∧ i_1.toInt ≤ n_tl.toInt) (hmu1 : (n_tl.toInt - i_1.toInt) < ((n1 + 1 : Nat) : Int)) (t_3 : i_1.toInt < n_tl.toInt) (h_8 : 0 ≤ r_7.toInt ∧ r_7.toInt ≤ 3) (t_10 : r_7.toInt = (1 : Int)) : -2147483648 ≤ v1.toInt + (4 : Int) ∧ v1.toInt + (4 : Int) < 2147483648 := by
  have := rg_rng n_ta; have := rg_rng n_to; have := rg_rng n_tl; have := rg_rng v1; have := rg_rng i_1; have := rg_rng r_7; omega
theorem lg_X9_codeOfNumber_6 (n_ta : Int32) (n_to : Int32) (n_tl : Int32) (v1 : Int32) (i_1 : Int32) (n1 : Nat) (r_7 : Int32) (x_14 : Int32) (yq : 0 ≤ n_ta.toInt ∧ n_ta.toInt ≤ 600 ∧ 0 ≤ n_to.toInt ∧ n_to.toInt ≤ 600 ∧ 0 ≤ n_tl.toInt ∧ n_tl.toInt ≤ 600) (yv : 0 ≤ v1.toInt ∧ v1.toInt < n_tl.toInt) (hi1_0 : 0 ≤ i_1.toInt ∧ i_1.toInt ≤ n_tl.toInt) (hmu1 : (n_tl.toInt - i_1.toInt) < ((n1 + 1 : Nat) : Int)) (t_3 : i_1.toInt < n_tl.toInt) (h_8 : 0 ≤ r_7.toInt ∧ r_7.toInt ≤ 3) (t_10 : r_7.toInt = (1 : Int)) (t_16 : x_14.toInt = v1.toInt + (4 : Int)) (t_18 : i_1.toInt < x_14.toInt) : 0 ≤ i_1.toInt ∧ i_1.toInt < ((600 : Nat) : Int) := by
  have := rg_rng n_ta; have := rg_rng n_to; have := rg_rng n_tl; have := rg_rng v1; have := rg_rng i_1; have := rg_rng r_7; have := rg_rng x_14; omega
theorem lg_X9_codeOfNumber_7 (n_ta : Int32) (n_to : Int32) (n_tl : Int32) (v1 : Int32) (i_1 : Int32) (n1 : Nat) (r_7 : Int32) (x_14 : Int32) (yq : 0 ≤ n_ta.toInt ∧ n_ta.toInt ≤ 600 ∧ 0 ≤ n_to.toInt ∧ n_to.toInt ≤ 600 ∧ 0 ≤ n_tl.toInt ∧ n_tl.toInt ≤ 600) (yv : 0 ≤ v1.toInt ∧ v1.toInt < n_tl.toInt) (hi1_0 : 0 ≤ i_1.toInt ∧ i_1.toInt ≤ n_tl.toInt) (hmu1 : (n_tl.toInt - i_1.toInt) < ((n1 + 1 : Nat) : Int)) (t_3 : i_1.toInt < n_tl.toInt) (h_8 : 0 ≤ r_7.toInt ∧ r_7.toInt ≤ 3) (t_10 : r_7.toInt = (1 : Int)) (t_16 : x_14.toInt = v1.toInt + (4 : Int)) (t_18 : i_1.toInt < x_14.toInt) : -2147483648 ≤ i_1.toInt + 1 ∧ i_1.toInt + 1 < 2147483648 := by
  have := rg_rng n_ta; have := rg_rng n_to; have := rg_rng n_tl; have := rg_rng v1; have := rg_rng i_1; have := rg_rng r_7; have := rg_rng x_14; omega
theorem lg_X9_codeOfNumber_8 (n_ta : Int32) (n_to : Int32) (n_tl : Int32) (v1 : Int32) (i_1 : Int32) (n1 : Nat) (r_7 : Int32) (x_14 : Int32) (x_30 : Int32) (yq : 0 ≤ n_ta.toInt ∧ n_ta.toInt ≤ 600 ∧ 0 ≤ n_to.toInt ∧ n_to.toInt ≤ 600 ∧ 0 ≤ n_tl.toInt ∧ n_tl.toInt ≤ 600) (yv : 0 ≤ v1.toInt ∧ v1.toInt < n_tl.toInt) (hi1_0 : 0 ≤ i_1.toInt ∧ i_1.toInt ≤ n_tl.toInt) (hmu1 : (n_tl.toInt - i_1.toInt) < ((n1 + 1 : Nat) : Int)) (t_3 : i_1.toInt < n_tl.toInt) (h_8 : 0 ≤ r_7.toInt ∧ r_7.toInt ≤ 3) (t_10 : r_7.toInt = (1 : Int)) (t_16 : x_14.toInt = v1.toInt + (4 : Int)) (t_18 : i_1.toInt < x_14.toInt) (t_32 : x_30.toInt = i_1.toInt + 1) : (n_tl.toInt - x_30.toInt) < (n1 : Int) := by
  have := rg_rng n_ta; have := rg_rng n_to; have := rg_rng n_tl; have := rg_rng v1; have := rg_rng i_1; have := rg_rng r_7; have := rg_rng x_14; have := rg_rng x_30; omega
theorem lg_X9_codeOfNumber_9 (n_ta : Int32) (n_to : Int32) (n_tl : Int32) (v1 : Int32) (i_1 : Int32) (n1 : Nat) (r_7 : Int32) (x_14 : Int32) (x_30 : Int32) (yq : 0 ≤ n_ta.toInt ∧ n_ta.toInt ≤ 600 ∧ 0 ≤ n_to.toInt ∧ n_to.toInt ≤ 600 ∧ 0 ≤ n_tl.toInt ∧ n_tl.toInt ≤ 600) (yv : 0 ≤ v1.toInt ∧ v1.toInt < n_tl.toInt) (hi1_0 : 0 ≤ i_1.toInt ∧ i_1.toInt ≤ n_tl.toInt) (hmu1 : (n_tl.toInt - i_1.toInt) < ((n1 + 1 : Nat) : Int)) (t_3 : i_1.toInt < n_tl.toInt) (h_8 : 0 ≤ r_7.toInt ∧ r_7.toInt ≤ 3) (t_10 : r_7.toInt = (1 : Int)) (t_16 : x_14.toInt = v1.toInt + (4 : Int)) (t_18 : i_1.toInt < x_14.toInt) (t_32 : x_30.toInt = i_1.toInt + 1) : 0 ≤ x_30.toInt ∧ x_30.toInt ≤ n_tl.toInt := by
  have := rg_rng n_ta; have := rg_rng n_to; have := rg_rng n_tl; have := rg_rng v1; have := rg_rng i_1; have := rg_rng r_7; have := rg_rng x_14; have := rg_rng x_30; omega
theorem lg_X9_codeOfNumber_10 (n_ta : Int32) (n_to : Int32) (n_tl : Int32) (v1 : Int32) (i_1 : Int32) (n1 : Nat) (r_7 : Int32) (x_14 : Int32) (yq : 0 ≤ n_ta.toInt ∧ n_ta.toInt ≤ 600 ∧ 0 ≤ n_to.toInt ∧ n_to.toInt ≤ 600 ∧ 0 ≤ n_tl.toInt ∧ n_tl.toInt ≤ 600) (yv : 0 ≤ v1.toInt ∧ v1.toInt < n_tl.toInt) (hi1_0 : 0 ≤ i_1.toInt ∧ i_1.toInt ≤ n_tl.toInt) (hmu1 : (n_tl.toInt - i_1.toInt) < ((n1 + 1 : Nat) : Int)) (t_3 : i_1.toInt < n_tl.toInt) (h_8 : 0 ≤ r_7.toInt ∧ r_7.toInt ≤ 3) (t_10 : r_7.toInt = (1 : Int)) (t_16 : x_14.toInt = v1.toInt + (4 : Int)) (t_18 : x_14.toInt ≤ i_1.toInt) : True := by
  have := rg_rng n_ta; have := rg_rng n_to; have := rg_rng n_tl; have := rg_rng v1; have := rg_rng i_1; have := rg_rng r_7; have := rg_rng x_14; trivial
set_option maxHeartbeats 4000000 in
set_option maxRecDepth 100000 in
theorem kX9_codeOfNumber (l : Launch) (dC : Nat → ClassId) (dI : Nat → Nat → Nat) (sz : Nat) (h0 : Nat) (p_bytes : Nat) (p_ts : Nat) (p_tc : Nat) (n_ta : Int32) (n_to : Int32) (n_tl : Int32) (k_bytes : ClassId) (f_bytes : Nat → Int32) (v1 : Int32) (yq : 0 ≤ n_ta.toInt ∧ n_ta.toInt ≤ 600 ∧ 0 ≤ n_to.toInt ∧ n_to.toInt ≤ 600 ∧ 0 ≤ n_tl.toInt ∧ n_tl.toInt ≤ 600) (yv : 0 ≤ v1.toInt ∧ v1.toInt < n_tl.toInt) : Met l yX9_codeOfNumber (Cond.code yX9_codeOfNumber cX9_codeOfNumber 4 (some .int) :: bg) ({ frames := 1, cells := 0, slots := 0, locals := 22 }) (pcW dC dI [.ref h0, .int v1] sz [(h0, .inr (9, [.ref p_bytes, .ref p_ts, .ref p_tc, .int n_ta, .int n_to, .int n_tl])), (p_bytes, .inl (k_bytes, 600, .inl f_bytes))] [(k_bytes, .byte)]) (va_Qi (fun (r : Int32) (u : Unit) => True) (fun (u : Unit) (t : State) => va_P (dC, dI) vwCl [(h0, .inr (9, [.ref p_bytes, .ref p_ts, .ref p_tc, .int n_ta, .int n_to, .int n_tl])), (p_bytes, .inl (k_bytes, 600, .inl f_bytes))] t.heap ∧ va_K (dC, dI) vwCl [(k_bytes, .byte)] t ∧ va_D (va_A [(h0, .inr (9, [.ref p_bytes, .ref p_ts, .ref p_tc, .int n_ta, .int n_to, .int n_tl])), (p_bytes, .inl (k_bytes, 600, .inl f_bytes))] sz) [(h0, .inr (9, [.ref p_bytes, .ref p_ts, .ref p_tc, .int n_ta, .int n_to, .int n_tl])), (p_bytes, .inl (k_bytes, 600, .inl f_bytes))]) (va_A [(h0, .inr (9, [.ref p_bytes, .ref p_ts, .ref p_tc, .int n_ta, .int n_to, .int n_tl])), (p_bytes, .inl (k_bytes, 600, .inl f_bytes))] sz)) 0 0 (va_A [(h0, .inr (9, [.ref p_bytes, .ref p_ts, .ref p_tc, .int n_ta, .int n_to, .int n_tl])), (p_bytes, .inl (k_bytes, 600, .inl f_bytes))] sz) := by
  refine Met.ofW (cc := cX9_codeOfNumber) (maxL := 4) (ret := (some .int)) pnX9 rfl ?_
  intro p e s m args below meth c s₁ B hml hv
  obtain ⟨rfl, hsz, hP, hK, hD0, hN⟩ := hv
  have hx := B.exec
  have hb := B.bytes
  have hr := B.returns
  have htb : ∀ w ∈ bg, w.before [.ref h0, .int v1].toArray s = true := fun w h => atoms_spec (ws := Cond.code yX9_codeOfNumber cX9_codeOfNumber 4 (some .int) :: bg) B.pre w (List.mem_cons_of_mem _ h)
  have hown : s.vm.findClass RX9 = some m.cls := findClass_of_methodNamed B.named
  have hlocks := B.notSynchronized
  subst hsz
  have hD := hD0.self (sz := s.heap.size)
  generalize hAe : va_A [(h0, .inr (9, [.ref p_bytes, .ref p_ts, .ref p_tc, .int n_ta, .int n_to, .int n_tl])), (p_bytes, .inl (k_bytes, 600, .inl f_bytes))] s.heap.size = A at hD ⊢
  have hA : ∀ q : Nat, s.heap.size ≤ q → A q := fun q h => by rw [← hAe]; exact Or.inr h
  have hS : va_S A s.heap s.heap [] := va_S.rf
  have hl := lv_entry ([.ref h0, .int v1]) (n := 4) (Nat.le_of_ble_eq_true rfl)
  rw [lg_entry_eq]
  generalize (lg_sl ([.ref h0, .int v1]) ++ List.replicate (4 - (lg_sl ([.ref h0, .int v1])).length) Slot.unset).toArray = ls at hl ⊢
  change lv_has ls 4 [(0, .ref h0), (1, .int v1)] at hl
  clear hD0 hAe
  refine go0 (wsP := fun H => va_P (dC, dI) vwCl [(h0, .inr (9, [.ref p_bytes, .ref p_ts, .ref p_tc, .int n_ta, .int n_to, .int n_tl])), (p_bytes, .inl (k_bytes, 600, .inl f_bytes))] H) hP hS ?_
  clear hP hS; intro H locs hP hS
  change va_P (dC, dI) vwCl [(h0, .inr (9, [.ref p_bytes, .ref p_ts, .ref p_tc, .int n_ta, .int n_to, .int n_tl])), (p_bytes, .inl (k_bytes, 600, .inl f_bytes))] H at hP
  refine lv_iconst (v := 0) hx hb dX9_codeOfNumber_0 (by decide) ?_
  refine lv_istore_n (lv' := [(2, .int 0), (0, .ref h0), (1, .int v1)]) hx hb dX9_codeOfNumber_1 rfl hl (by decide) rfl ?_
  clear hl; intro ls hl
  refine lv_iload_n hx hb dX9_codeOfNumber_2 rfl (lv_at hl 2 rfl) ?_
  refine lv_istore_n (lv' := [(3, .int v1), (2, .int 0), (0, .ref h0), (1, .int v1)]) hx hb dX9_codeOfNumber_3 rfl hl (by decide) rfl ?_
  clear hl; intro ls hl
  refine (fun (lp : ∀ (n1 : Nat) (i_1 : Int32) (z_1 : Int32) (H : Heap) (locs : List Loc) (ls : Array Slot), (n_tl.toInt - i_1.toInt) < (n1 : Int) → (0 ≤ i_1.toInt ∧ i_1.toInt ≤ n_tl.toInt) → lv_has ls 4 [(3, .int i_1), (2, .int z_1), (0, .ref h0), (1, .int v1)] → va_P (dC, dI) vwCl [(h0, .inr (9, [.ref p_bytes, .ref p_ts, .ref p_tc, .int n_ta, .int n_to, .int n_tl])), (p_bytes, .inl (k_bytes, 600, .inl f_bytes))] H → va_D A [(h0, .inr (9, [.ref p_bytes, .ref p_ts, .ref p_tc, .int n_ta, .int n_to, .int n_tl])), (p_bytes, .inl (k_bytes, 600, .inl f_bytes))] → va_S A s.heap H locs → W p l e _ s m _ below meth c H locs _ _ _ (F0 m 4 ls [])) => lp (Int.toNat (n_tl.toInt - v1.toInt) + 1) v1 0   H locs ls ((lg_X9_codeOfNumber_0 n_ta n_to n_tl v1 yq yv)) (lg_X9_codeOfNumber_1 n_ta n_to n_tl v1 yq yv)   hl hP hD hS) ?_
  clear hP hD hS hl
  intro n1
  induction n1 with
  | zero =>
    intro i_1 z_1 H locs ls hmu1 hi1_0   hl hP hD hS
    exact False.elim (lg_X9_codeOfNumber_2 n_ta n_to n_tl v1 i_1 yq yv hi1_0 hmu1)
  | succ n1 ih1 =>
    intro i_1 z_1 H locs ls hmu1 hi1_0   hl hP hD hS
    refine lv_iload_n hx hb dX9_codeOfNumber_4 rfl (lv_at hl 0 rfl) ?_
    refine lv_aload_n hx hb dX9_codeOfNumber_5 rfl (lv_at hl 2 rfl) ?_
    refine va_get (D := (dC, dI)) (ci := 9) (v := .int n_tl) (C := RX9) (T := TX9) (N := 6) hx hb htb iX9 hown hK hP 0 rfl rfl 5 (Nat.le_of_ble_eq_true rfl) (htb _ m_242) (fun _ h9 => h9) rfl dX9_codeOfNumber_6 ?_
    refine lv_icmp_ge (tgt := 51) hx hb dX9_codeOfNumber_9 (by decide) (fun c_2 => ?_) (fun c_2 => ?_)
    · have t_3 : n_tl.toInt ≤ i_1.toInt := i_le rfl rfl c_2
      refine lv_sipush (v := 1000) hx hb dX9_codeOfNumber_51 (by decide) ?_
      refine lv_iload_n hx hb dX9_codeOfNumber_54 rfl (lv_at hl 1 rfl) ?_
      refine lv_iadd hx hb dX9_codeOfNumber_55 ?_
      refine lv_topi (fun x_4 ex_5 => ?_)
      refine W.widen (k := 0) (n := 0) (Nat.le_of_ble_eq_true rfl) (Nat.le_of_ble_eq_true rfl) ?_
      have hP9 := hP.sub (ws' := [(h0, .inr (9, [.ref p_bytes, .ref p_ts, .ref p_tc, .int n_ta, .int n_to, .int n_tl])), (p_bytes, .inl (k_bytes, 600, .inl f_bytes))]) [0, 1] rfl
      have hD9 := hD.sub (ws' := [(h0, .inr (9, [.ref p_bytes, .ref p_ts, .ref p_tc, .int n_ta, .int n_to, .int n_tl])), (p_bytes, .inl (k_bytes, 600, .inl f_bytes))]) [0, 1] (by decide) rfl
      have hK9 := hK.sub (tys' := [(k_bytes, .byte)]) [0] rfl
      exact W.iret (v := x_4) hx hb hr (fun t ht hW => ⟨⟨x_4, (), rfl, (lg_X9_codeOfNumber_3 n_ta n_to n_tl v1 i_1 n1 yq yv hi1_0 hmu1 t_3), ⟨by rw [ht]; exact hP9, va_K.moved hW.alike hK9, hD9⟩⟩, hS.F ht⟩) hS.2.2 dX9_codeOfNumber_56
    · have t_3 : i_1.toInt < n_tl.toInt := i_nle rfl rfl c_2
      refine lv_aload_n hx hb dX9_codeOfNumber_12 rfl (lv_at hl 2 rfl) ?_
      refine lv_iload_n hx hb dX9_codeOfNumber_13 rfl (lv_at hl 0 rfl) ?_
      have hPc := hP.sub (ws' := [(h0, .inr (9, [.ref p_bytes, .ref p_ts, .ref p_tc, .int n_ta, .int n_to, .int n_tl])), (p_bytes, .inl (k_bytes, 600, .inl f_bytes))]) [0, 1] rfl
      have hDc := hD.sub (ws' := [(h0, .inr (9, [.ref p_bytes, .ref p_ts, .ref p_tc, .int n_ta, .int n_to, .int n_tl])), (p_bytes, .inl (k_bytes, 600, .inl f_bytes))]) [0, 1] (by decide) rfl
      have hKc := hK.sub (tys' := [(k_bytes, .byte)]) [0] rfl
      have hFc := va_free (wc := [(h0, .inr (9, [.ref p_bytes, .ref p_ts, .ref p_tc, .int n_ta, .int n_to, .int n_tl])), (p_bytes, .inl (k_bytes, 600, .inl f_bytes))]) hD hS hA [0, 1] rfl
      refine va_calli (va_runV (C := RX9) (As := [.int i_1]) (rest := []) ⟨hx, hb, hml, hown, htb⟩ (kX9_kindAt l dC dI H.size h0 p_bytes p_ts p_tc n_ta n_to n_tl k_bytes f_bytes i_1 yq) ⟨callB_of 1 htb (gd_c m_821) rfl rfl rfl (htb _ m_10) (htb _ m_818) hdX9_kindAt ⟨(Nat.le_of_ble_eq_true rfl), (Nat.le_of_ble_eq_true rfl)⟩, htb _ m_820, htb _ ms_17⟩ ⟨pcW_blind, va_recv hKc hPc (ci := 9) (q0 := 0) rfl rfl, pcW_at hPc hKc hDc hN⟩ rfl rfl hl.1 rfl (lv_room (Nat.le_of_ble_eq_true rfl)) dX9_codeOfNumber_14 ⟨(Nat.le_of_ble_eq_true rfl), (Nat.le_of_ble_eq_true rfl)⟩) hS (fun q _ h => hFc q h) hFc (fun r_7 u t H1 locs1 ht hvm h_8 hB hz1 hk1 hS1 => ?_)
      obtain ⟨hP1, hK1, hD1⟩ := hB
      rw [ht] at hP1
      obtain ⟨hPn, hDn⟩ := va_join (wr := []) (w1 := [(h0, .inr (9, [.ref p_bytes, .ref p_ts, .ref p_tc, .int n_ta, .int n_to, .int n_tl])), (p_bytes, .inl (k_bytes, 600, .inl f_bytes))]) hP hD [0, 1] [] rfl rfl (by decide) (by decide) hk1 hFc hP1 hD1
      clear hP1 hD1 hK1
      clear hP hD hS hPc hDc hKc hFc hk1 hz1 ht hvm
      clear t
      revert hS1 hPn hDn; generalize H1 = H; generalize locs1 = locs; intro hS hP hD
      change va_P (dC, dI) vwCl [(h0, .inr (9, [.ref p_bytes, .ref p_ts, .ref p_tc, .int n_ta, .int n_to, .int n_tl])), (p_bytes, .inl (k_bytes, 600, .inl f_bytes))] H at hP
      change va_D A [(h0, .inr (9, [.ref p_bytes, .ref p_ts, .ref p_tc, .int n_ta, .int n_to, .int n_tl])), (p_bytes, .inl (k_bytes, 600, .inl f_bytes))] at hD
      refine lv_iconst (v := 1) hx hb dX9_codeOfNumber_17 (by decide) ?_
      refine lv_icmp_ne (tgt := 51) hx hb dX9_codeOfNumber_18 (by decide) (fun c_9 => ?_) (fun c_9 => ?_)
      · have t_10 : ¬ r_7.toInt = (1 : Int) := i_ne rfl (by decide) c_9
        refine lv_sipush (v := 1000) hx hb dX9_codeOfNumber_51 (by decide) ?_
        refine lv_iload_n hx hb dX9_codeOfNumber_54 rfl (lv_at hl 1 rfl) ?_
        refine lv_iadd hx hb dX9_codeOfNumber_55 ?_
        refine lv_topi (fun x_11 ex_12 => ?_)
        refine W.widen (k := 0) (n := 0) (Nat.le_of_ble_eq_true rfl) (Nat.le_of_ble_eq_true rfl) ?_
        have hP9 := hP.sub (ws' := [(h0, .inr (9, [.ref p_bytes, .ref p_ts, .ref p_tc, .int n_ta, .int n_to, .int n_tl])), (p_bytes, .inl (k_bytes, 600, .inl f_bytes))]) [0, 1] rfl
        have hD9 := hD.sub (ws' := [(h0, .inr (9, [.ref p_bytes, .ref p_ts, .ref p_tc, .int n_ta, .int n_to, .int n_tl])), (p_bytes, .inl (k_bytes, 600, .inl f_bytes))]) [0, 1] (by decide) rfl
        have hK9 := hK.sub (tys' := [(k_bytes, .byte)]) [0] rfl
        exact W.iret (v := x_11) hx hb hr (fun t ht hW => ⟨⟨x_11, (), rfl, (lg_X9_codeOfNumber_4 n_ta n_to n_tl v1 i_1 n1 r_7 yq yv hi1_0 hmu1 t_3 h_8 t_10), ⟨by rw [ht]; exact hP9, va_K.moved hW.alike hK9, hD9⟩⟩, hS.F ht⟩) hS.2.2 dX9_codeOfNumber_56
      · have t_10 : r_7.toInt = (1 : Int) := i_eq rfl (by decide) c_9
        refine lv_iload_n hx hb dX9_codeOfNumber_21 rfl (lv_at hl 0 rfl) ?_
        refine lv_iload_n hx hb dX9_codeOfNumber_22 rfl (lv_at hl 3 rfl) ?_
        refine lv_iconst (v := 4) hx hb dX9_codeOfNumber_23 (by decide) ?_
        refine lv_iadd hx hb dX9_codeOfNumber_24 ?_
        refine lv_topi (fun x_14 ex_15 => ?_)
        have t_16 : x_14.toInt = v1.toInt + (4 : Int) := i_add rfl (by decide) (lg_X9_codeOfNumber_5 n_ta n_to n_tl v1 i_1 n1 r_7 yq yv hi1_0 hmu1 t_3 h_8 t_10) ex_15
        refine lv_icmp_lt (tgt := 30) hx hb dX9_codeOfNumber_25 (by decide) (fun c_17 => ?_) (fun c_17 => ?_)
        · have t_18 : i_1.toInt < x_14.toInt := i_lt rfl rfl c_17
          refine lv_iload_n hx hb dX9_codeOfNumber_30 rfl (lv_at hl 1 rfl) ?_
          refine lv_bipush (v := 10) hx hb dX9_codeOfNumber_31 (by decide) ?_
          refine lv_imul hx hb dX9_codeOfNumber_33 ?_
          refine lv_topi (fun x_19 ex_20 => ?_)
          refine lv_aload_n hx hb dX9_codeOfNumber_34 rfl (lv_at hl 2 rfl) ?_
          refine va_get (D := (dC, dI)) (ci := 9) (v := .ref p_bytes) (C := RX9) (T := TX9) (N := 6) hx hb htb iX9 hown hK hP 0 rfl rfl 0 (Nat.le_of_ble_eq_true rfl) (htb _ m_236) (fun _ h9 => h9) rfl dX9_codeOfNumber_35 ?_
          refine lv_iload_n hx hb dX9_codeOfNumber_38 rfl (lv_at hl 0 rfl) ?_
          refine va_bald hx hb hK hP 1 0 rfl rfl (i_in rfl (lg_X9_codeOfNumber_6 n_ta n_to n_tl v1 i_1 n1 r_7 x_14 yq yv hi1_0 hmu1 t_3 h_8 t_10 t_16 t_18)) dX9_codeOfNumber_39 ?_
          refine lv_topi (fun x_22 ex_23 => ?_)
          refine lv_iadd hx hb dX9_codeOfNumber_40 ?_
          refine lv_topi (fun x_24 ex_25 => ?_)
          refine lv_bipush (v := 48) hx hb dX9_codeOfNumber_41 (by decide) ?_
          refine lv_isub hx hb dX9_codeOfNumber_43 ?_
          refine lv_topi (fun x_27 ex_28 => ?_)
          refine lv_istore_n (lv' := [(2, .int x_27), (3, .int i_1), (0, .ref h0), (1, .int v1)]) hx hb dX9_codeOfNumber_44 rfl hl (by decide) rfl ?_
          clear hl; intro ls hl
          obtain ⟨x_30, ex_31⟩ : ∃ y : Int32, y = i_1 + Int32.ofInt 1 := ⟨_, rfl⟩
          have t_32 : x_30.toInt = i_1.toInt + 1 := i_add rfl (by decide) (lg_X9_codeOfNumber_7 n_ta n_to n_tl v1 i_1 n1 r_7 x_14 yq yv hi1_0 hmu1 t_3 h_8 t_10 t_16 t_18) ex_31
          refine lv_iinc (v := x_30) (lv' := [(3, .int x_30), (2, .int x_27), (0, .ref h0), (1, .int v1)]) hx hb dX9_codeOfNumber_45 hl (k := 1) rfl ex_31.symm (by decide) rfl ?_
          clear hl; intro ls hl
          refine lv_goto (tgt := 4) hx hb dX9_codeOfNumber_48 (by decide) ?_
          exact ih1 x_30 x_27  H locs ls (lg_X9_codeOfNumber_8 n_ta n_to n_tl v1 i_1 n1 r_7 x_14 x_30 yq yv hi1_0 hmu1 t_3 h_8 t_10 t_16 t_18 t_32) (lg_X9_codeOfNumber_9 n_ta n_to n_tl v1 i_1 n1 r_7 x_14 x_30 yq yv hi1_0 hmu1 t_3 h_8 t_10 t_16 t_18 t_32)   (lv_sub hl [0, 1, 2, 3] rfl) (hP.sub [0, 1] rfl) (hD.sub [0, 1] (by decide) rfl) hS
        · have t_18 : x_14.toInt ≤ i_1.toInt := i_nlt rfl rfl c_17
          refine lv_iconst (v := (-1)) hx hb dX9_codeOfNumber_28 (by decide) ?_
          refine W.widen (k := 0) (n := 0) (Nat.le_of_ble_eq_true rfl) (Nat.le_of_ble_eq_true rfl) ?_
          have hP9 := hP.sub (ws' := [(h0, .inr (9, [.ref p_bytes, .ref p_ts, .ref p_tc, .int n_ta, .int n_to, .int n_tl])), (p_bytes, .inl (k_bytes, 600, .inl f_bytes))]) [0, 1] rfl
          have hD9 := hD.sub (ws' := [(h0, .inr (9, [.ref p_bytes, .ref p_ts, .ref p_tc, .int n_ta, .int n_to, .int n_tl])), (p_bytes, .inl (k_bytes, 600, .inl f_bytes))]) [0, 1] (by decide) rfl
          have hK9 := hK.sub (tys' := [(k_bytes, .byte)]) [0] rfl
          exact W.iret (v := (-1)) hx hb hr (fun t ht hW => ⟨⟨(-1), (), rfl, (lg_X9_codeOfNumber_10 n_ta n_to n_tl v1 i_1 n1 r_7 x_14 yq yv hi1_0 hmu1 t_3 h_8 t_10 t_16 t_18), ⟨by rw [ht]; exact hP9, va_K.moved hW.alike hK9, hD9⟩⟩, hS.F ht⟩) hS.2.2 dX9_codeOfNumber_29

theorem lg_X11_pump_0 (n_tb : Int32) (v1 : Int32) (yb : 1 ≤ n_tb.toInt ∧ n_tb.toInt ≤ 40) (h_2 : (0 : Int) ≤ v1.toInt ∧ v1.toInt ≤ (100 : Int)) : 0 ≤ v1.toInt ∧ v1.toInt ≤ 100 := by
  have := rg_rng n_tb; have := rg_rng v1; omega
theorem lg_X11_pump_1 (n_tb : Int32) (v1 : Int32) (yb : 1 ≤ n_tb.toInt ∧ n_tb.toInt ≤ 40) (h_2 : ¬ ((0 : Int) ≤ v1.toInt ∧ v1.toInt ≤ (100 : Int))) : ¬ (0 ≤ v1.toInt ∧ v1.toInt ≤ 100) := by
  have := rg_rng n_tb; have := rg_rng v1; omega
set_option maxHeartbeats 4000000 in
set_option maxRecDepth 100000 in
theorem kX11_pump (l : Launch) (dC : Nat → ClassId) (dI : Nat → Nat → Nat) (sz : Nat) (h0 : Nat) (z_tubes : Nat) (z_grove : Nat) (z_season : Nat) (z_past : Nat) (z_tank : Nat) (z_pan : Nat) (z_cellar : Nat) (z_coop : Nat) (z_tape : Nat) (z_reader : Nat) (z_facts : Nat) (z_book : Nat) (z_spare : Nat) (n_fp : Int32) (t_to : Nat) (t_height : Nat) (t_member : Nat) (t_lengthHome : Nat) (t_runs : Nat) (t_leak : Nat) (t_vacuum : Nat) (t_reading : Nat) (n_tb : Int32) (k_to : ClassId) (k_leak : ClassId) (k_vacuum : ClassId) (f_to : Nat → Int32) (f_leak : Nat → Int32) (f_vacuum : Nat → Int32) (v1 : Int32) (yb : 1 ≤ n_tb.toInt ∧ n_tb.toInt ≤ 40) (yvac : Rg f_vacuum 40 0 100) (ylk : Rg f_leak 40 0 20) : Met l yX11_pump (Cond.code yX11_pump cX11_pump 2 (some .boolean) :: bg) ({ frames := 4, cells := 0, slots := 0, locals := 84 }) (pcW dC dI [.ref h0, .int v1] sz [(h0, .inr (11, [.ref z_tubes, .ref z_grove, .ref z_season, .ref z_past, .ref z_tank, .ref z_pan, .ref z_cellar, .ref z_coop, .ref z_tape, .ref z_reader, .ref z_facts, .ref z_book, .ref z_spare, .int n_fp])), (z_tubes, .inr (10, [.ref t_to, .ref t_height, .ref t_member, .ref t_lengthHome, .ref t_runs, .ref t_leak, .ref t_vacuum, .ref t_reading, .int n_tb])), (t_to, .inl (k_to, 40, .inl f_to)), (t_leak, .inl (k_leak, 40, .inl f_leak)), (t_vacuum, .inl (k_vacuum, 40, .inl f_vacuum))] [(k_to, .int), (k_leak, .int), (k_vacuum, .int)]) (va_Qi (fun (r : Int32) (u : Unit) => (r = 1 ∧ 0 ≤ v1.toInt ∧ v1.toInt ≤ 100) ∨ (r = 0 ∧ ¬ (0 ≤ v1.toInt ∧ v1.toInt ≤ 100))) (fun (u : Unit) (t : State) => ∃ (w_vacuum : Nat → Int32), Rg w_vacuum 40 0 100 ∧ va_P (dC, dI) vwCl [(h0, .inr (11, [.ref z_tubes, .ref z_grove, .ref z_season, .ref z_past, .ref z_tank, .ref z_pan, .ref z_cellar, .ref z_coop, .ref z_tape, .ref z_reader, .ref z_facts, .ref z_book, .ref z_spare, .int n_fp])), (z_tubes, .inr (10, [.ref t_to, .ref t_height, .ref t_member, .ref t_lengthHome, .ref t_runs, .ref t_leak, .ref t_vacuum, .ref t_reading, .int n_tb])), (t_to, .inl (k_to, 40, .inl f_to)), (t_leak, .inl (k_leak, 40, .inl f_leak)), (t_vacuum, .inl (k_vacuum, 40, .inl w_vacuum))] t.heap ∧ va_K (dC, dI) vwCl [] t ∧ va_D (va_A [(h0, .inr (11, [.ref z_tubes, .ref z_grove, .ref z_season, .ref z_past, .ref z_tank, .ref z_pan, .ref z_cellar, .ref z_coop, .ref z_tape, .ref z_reader, .ref z_facts, .ref z_book, .ref z_spare, .int n_fp])), (z_tubes, .inr (10, [.ref t_to, .ref t_height, .ref t_member, .ref t_lengthHome, .ref t_runs, .ref t_leak, .ref t_vacuum, .ref t_reading, .int n_tb])), (t_to, .inl (k_to, 40, .inl f_to)), (t_leak, .inl (k_leak, 40, .inl f_leak)), (t_vacuum, .inl (k_vacuum, 40, .inl f_vacuum))] sz) [(h0, .inr (11, [.ref z_tubes, .ref z_grove, .ref z_season, .ref z_past, .ref z_tank, .ref z_pan, .ref z_cellar, .ref z_coop, .ref z_tape, .ref z_reader, .ref z_facts, .ref z_book, .ref z_spare, .int n_fp])), (z_tubes, .inr (10, [.ref t_to, .ref t_height, .ref t_member, .ref t_lengthHome, .ref t_runs, .ref t_leak, .ref t_vacuum, .ref t_reading, .int n_tb])), (t_to, .inl (k_to, 40, .inl f_to)), (t_leak, .inl (k_leak, 40, .inl f_leak)), (t_vacuum, .inl (k_vacuum, 40, .inl w_vacuum))]) (va_A [(h0, .inr (11, [.ref z_tubes, .ref z_grove, .ref z_season, .ref z_past, .ref z_tank, .ref z_pan, .ref z_cellar, .ref z_coop, .ref z_tape, .ref z_reader, .ref z_facts, .ref z_book, .ref z_spare, .int n_fp])), (z_tubes, .inr (10, [.ref t_to, .ref t_height, .ref t_member, .ref t_lengthHome, .ref t_runs, .ref t_leak, .ref t_vacuum, .ref t_reading, .int n_tb])), (t_to, .inl (k_to, 40, .inl f_to)), (t_leak, .inl (k_leak, 40, .inl f_leak)), (t_vacuum, .inl (k_vacuum, 40, .inl f_vacuum))] sz)) 0 0 (va_A [(h0, .inr (11, [.ref z_tubes, .ref z_grove, .ref z_season, .ref z_past, .ref z_tank, .ref z_pan, .ref z_cellar, .ref z_coop, .ref z_tape, .ref z_reader, .ref z_facts, .ref z_book, .ref z_spare, .int n_fp])), (z_tubes, .inr (10, [.ref t_to, .ref t_height, .ref t_member, .ref t_lengthHome, .ref t_runs, .ref t_leak, .ref t_vacuum, .ref t_reading, .int n_tb])), (t_to, .inl (k_to, 40, .inl f_to)), (t_leak, .inl (k_leak, 40, .inl f_leak)), (t_vacuum, .inl (k_vacuum, 40, .inl f_vacuum))] sz) := by
  refine Met.ofW (cc := cX11_pump) (maxL := 2) (ret := (some .boolean)) pnX11 rfl ?_
  intro p e s m args below meth c s₁ B hml hv
  obtain ⟨rfl, hsz, hP, hK, hD0, hN⟩ := hv
  have hx := B.exec
  have hb := B.bytes
  have hr := B.returns
  have htb : ∀ w ∈ bg, w.before [.ref h0, .int v1].toArray s = true := fun w h => atoms_spec (ws := Cond.code yX11_pump cX11_pump 2 (some .boolean) :: bg) B.pre w (List.mem_cons_of_mem _ h)
  have hown : s.vm.findClass RX11 = some m.cls := findClass_of_methodNamed B.named
  have hlocks := B.notSynchronized
  subst hsz
  have hD := hD0.self (sz := s.heap.size)
  generalize hAe : va_A [(h0, .inr (11, [.ref z_tubes, .ref z_grove, .ref z_season, .ref z_past, .ref z_tank, .ref z_pan, .ref z_cellar, .ref z_coop, .ref z_tape, .ref z_reader, .ref z_facts, .ref z_book, .ref z_spare, .int n_fp])), (z_tubes, .inr (10, [.ref t_to, .ref t_height, .ref t_member, .ref t_lengthHome, .ref t_runs, .ref t_leak, .ref t_vacuum, .ref t_reading, .int n_tb])), (t_to, .inl (k_to, 40, .inl f_to)), (t_leak, .inl (k_leak, 40, .inl f_leak)), (t_vacuum, .inl (k_vacuum, 40, .inl f_vacuum))] s.heap.size = A at hD ⊢
  have hA : ∀ q : Nat, s.heap.size ≤ q → A q := fun q h => by rw [← hAe]; exact Or.inr h
  have hS : va_S A s.heap s.heap [] := va_S.rf
  have hl := lv_entry ([.ref h0, .int v1]) (n := 2) (Nat.le_of_ble_eq_true rfl)
  rw [lg_entry_eq]
  generalize (lg_sl ([.ref h0, .int v1]) ++ List.replicate (2 - (lg_sl ([.ref h0, .int v1])).length) Slot.unset).toArray = ls at hl ⊢
  change lv_has ls 2 [(0, .ref h0), (1, .int v1)] at hl
  clear hD0 hAe
  refine go0 (wsP := fun H => va_P (dC, dI) vwCl [(h0, .inr (11, [.ref z_tubes, .ref z_grove, .ref z_season, .ref z_past, .ref z_tank, .ref z_pan, .ref z_cellar, .ref z_coop, .ref z_tape, .ref z_reader, .ref z_facts, .ref z_book, .ref z_spare, .int n_fp])), (z_tubes, .inr (10, [.ref t_to, .ref t_height, .ref t_member, .ref t_lengthHome, .ref t_runs, .ref t_leak, .ref t_vacuum, .ref t_reading, .int n_tb])), (t_to, .inl (k_to, 40, .inl f_to)), (t_leak, .inl (k_leak, 40, .inl f_leak)), (t_vacuum, .inl (k_vacuum, 40, .inl f_vacuum))] H) hP hS ?_
  clear hP hS; intro H locs hP hS
  change va_P (dC, dI) vwCl [(h0, .inr (11, [.ref z_tubes, .ref z_grove, .ref z_season, .ref z_past, .ref z_tank, .ref z_pan, .ref z_cellar, .ref z_coop, .ref z_tape, .ref z_reader, .ref z_facts, .ref z_book, .ref z_spare, .int n_fp])), (z_tubes, .inr (10, [.ref t_to, .ref t_height, .ref t_member, .ref t_lengthHome, .ref t_runs, .ref t_leak, .ref t_vacuum, .ref t_reading, .int n_tb])), (t_to, .inl (k_to, 40, .inl f_to)), (t_leak, .inl (k_leak, 40, .inl f_leak)), (t_vacuum, .inl (k_vacuum, 40, .inl f_vacuum))] H at hP
  refine lv_iload_n hx hb dX11_pump_0 rfl (lv_at hl 1 rfl) ?_
  refine lv_iconst (v := 0) hx hb dX11_pump_1 (by decide) ?_
  refine lv_bipush (v := 100) hx hb dX11_pump_2 (by decide) ?_
  have hPc := hP.sub (ws' := []) [] rfl
  have hDc := hD.sub (ws' := []) [] (by decide) rfl
  have hKc := hK.sub (tys' := []) [] rfl
  have hFc := va_free (wc := []) hD hS hA [] rfl
  refine va_calli (va_runS (As := [.int v1, .int 0, .int 100]) (rest := []) ⟨hx, hb, hml, hown, htb⟩ (kX11_isWithin l dC dI H.size v1 0 100 ) ⟨callB_of 3 htb (gd_c m_355) rfl rfl rfl (htb _ m_1) (htb _ m_353) hdX11_isWithin ⟨(Nat.le_of_ble_eq_true rfl), (Nat.le_of_ble_eq_true rfl)⟩, htb _ m_354⟩ ⟨pcW_blind, pcW_at hPc hKc hDc hN⟩ rfl rfl hl.1 rfl (lv_room (Nat.le_of_ble_eq_true rfl)) dX11_pump_4 ⟨(Nat.le_of_ble_eq_true rfl), (Nat.le_of_ble_eq_true rfl)⟩) hS (fun q _ h => hFc q h) hFc (fun r_1 u t H1 locs1 ht hvm h_2 hB hz1 hk1 hS1 => ?_)
  obtain ⟨hP1, hK1, hD1⟩ := hB
  rw [ht] at hP1
  obtain ⟨hPn, hDn⟩ := va_join (wr := [(h0, .inr (11, [.ref z_tubes, .ref z_grove, .ref z_season, .ref z_past, .ref z_tank, .ref z_pan, .ref z_cellar, .ref z_coop, .ref z_tape, .ref z_reader, .ref z_facts, .ref z_book, .ref z_spare, .int n_fp])), (z_tubes, .inr (10, [.ref t_to, .ref t_height, .ref t_member, .ref t_lengthHome, .ref t_runs, .ref t_leak, .ref t_vacuum, .ref t_reading, .int n_tb])), (t_to, .inl (k_to, 40, .inl f_to)), (t_leak, .inl (k_leak, 40, .inl f_leak)), (t_vacuum, .inl (k_vacuum, 40, .inl f_vacuum))]) (w1 := []) hP hD [] [0, 1, 2, 3, 4] rfl rfl (by decide) (by decide) hk1 hFc hP1 hD1
  clear hP1 hD1 hK1
  clear hP hD hS hPc hDc hKc hFc hk1 hz1 ht hvm
  clear t
  revert hS1 hPn hDn; generalize H1 = H; generalize locs1 = locs; intro hS hP hD
  change va_P (dC, dI) vwCl [(h0, .inr (11, [.ref z_tubes, .ref z_grove, .ref z_season, .ref z_past, .ref z_tank, .ref z_pan, .ref z_cellar, .ref z_coop, .ref z_tape, .ref z_reader, .ref z_facts, .ref z_book, .ref z_spare, .int n_fp])), (z_tubes, .inr (10, [.ref t_to, .ref t_height, .ref t_member, .ref t_lengthHome, .ref t_runs, .ref t_leak, .ref t_vacuum, .ref t_reading, .int n_tb])), (t_to, .inl (k_to, 40, .inl f_to)), (t_leak, .inl (k_leak, 40, .inl f_leak)), (t_vacuum, .inl (k_vacuum, 40, .inl f_vacuum))] H at hP
  change va_D A [(h0, .inr (11, [.ref z_tubes, .ref z_grove, .ref z_season, .ref z_past, .ref z_tank, .ref z_pan, .ref z_cellar, .ref z_coop, .ref z_tape, .ref z_reader, .ref z_facts, .ref z_book, .ref z_spare, .int n_fp])), (z_tubes, .inr (10, [.ref t_to, .ref t_height, .ref t_member, .ref t_lengthHome, .ref t_runs, .ref t_leak, .ref t_vacuum, .ref t_reading, .int n_tb])), (t_to, .inl (k_to, 40, .inl f_to)), (t_leak, .inl (k_leak, 40, .inl f_leak)), (t_vacuum, .inl (k_vacuum, 40, .inl f_vacuum))] at hD
  rcases h_2 with ⟨rfl, h_2⟩ | ⟨rfl, h_2⟩
  · refine lv_if_ne (tgt := 12) hx hb dX11_pump_7 (by decide) ?_ (fun c_3 => absurd c_3 (by decide))
    intro _
    refine lv_aload_n hx hb dX11_pump_12 rfl (lv_at hl 0 rfl) ?_
    refine va_get (D := (dC, dI)) (ci := 11) (v := .ref z_tubes) (C := RX11) (T := TX11) (N := 14) hx hb htb iX11 hown hK hP 0 rfl rfl 0 (Nat.le_of_ble_eq_true rfl) (htb _ m_302) (fun _ h9 => h9) rfl dX11_pump_13 ?_
    refine lv_iload_n hx hb dX11_pump_16 rfl (lv_at hl 1 rfl) ?_
    have hPc := hP.sub (ws' := [(z_tubes, .inr (10, [.ref t_to, .ref t_height, .ref t_member, .ref t_lengthHome, .ref t_runs, .ref t_leak, .ref t_vacuum, .ref t_reading, .int n_tb])), (t_to, .inl (k_to, 40, .inl f_to)), (t_leak, .inl (k_leak, 40, .inl f_leak)), (t_vacuum, .inl (k_vacuum, 40, .inl f_vacuum))]) [1, 2, 3, 4] rfl
    have hDc := hD.sub (ws' := [(z_tubes, .inr (10, [.ref t_to, .ref t_height, .ref t_member, .ref t_lengthHome, .ref t_runs, .ref t_leak, .ref t_vacuum, .ref t_reading, .int n_tb])), (t_to, .inl (k_to, 40, .inl f_to)), (t_leak, .inl (k_leak, 40, .inl f_leak)), (t_vacuum, .inl (k_vacuum, 40, .inl f_vacuum))]) [1, 2, 3, 4] (by decide) rfl
    have hKc := hK.sub (tys' := [(k_to, .int), (k_leak, .int), (k_vacuum, .int)]) [0, 1, 2] rfl
    have hFc := va_free (wc := [(z_tubes, .inr (10, [.ref t_to, .ref t_height, .ref t_member, .ref t_lengthHome, .ref t_runs, .ref t_leak, .ref t_vacuum, .ref t_reading, .int n_tb])), (t_to, .inl (k_to, 40, .inl f_to)), (t_leak, .inl (k_leak, 40, .inl f_leak)), (t_vacuum, .inl (k_vacuum, 40, .inl f_vacuum))]) hD hS hA [1, 2, 3, 4] rfl
    refine va_callv (va_runV (C := RX10) (As := [.int v1]) (rest := []) ⟨hx, hb, hml, hown, htb⟩ (kX10_setHouseVacuum l dC dI H.size z_tubes t_to t_height t_member t_lengthHome t_runs t_leak t_vacuum t_reading n_tb k_to k_leak k_vacuum f_to f_leak f_vacuum v1 yb yvac ylk (lg_X11_pump_0 n_tb v1 yb h_2)) ⟨callB_of 1 htb (gd_c m_445) rfl rfl rfl (htb _ m_2) (htb _ m_442) hdX10_setHouseVacuum ⟨(Nat.le_of_ble_eq_true rfl), (Nat.le_of_ble_eq_true rfl)⟩, htb _ m_443, htb _ m_444⟩ ⟨pcW_blind, va_recv hKc hPc (ci := 10) (q0 := 0) rfl rfl, pcW_at hPc hKc hDc hN⟩ rfl rfl hl.1 rfl (lv_room (Nat.le_of_ble_eq_true rfl)) dX11_pump_17 ⟨(Nat.le_of_ble_eq_true rfl), (Nat.le_of_ble_eq_true rfl)⟩) hS (fun q _ h => hFc q h) hFc (fun u t H1 locs1 ht hvm h_5 hB hz1 hk1 hS1 => ?_)
    obtain ⟨w_vacuum_6, e_7, hP1, hK1, hD1⟩ := hB
    rw [ht] at hP1
    obtain ⟨hPn, hDn⟩ := va_join (wr := [(h0, .inr (11, [.ref z_tubes, .ref z_grove, .ref z_season, .ref z_past, .ref z_tank, .ref z_pan, .ref z_cellar, .ref z_coop, .ref z_tape, .ref z_reader, .ref z_facts, .ref z_book, .ref z_spare, .int n_fp]))]) (w1 := [(z_tubes, .inr (10, [.ref t_to, .ref t_height, .ref t_member, .ref t_lengthHome, .ref t_runs, .ref t_leak, .ref t_vacuum, .ref t_reading, .int n_tb])), (t_to, .inl (k_to, 40, .inl f_to)), (t_leak, .inl (k_leak, 40, .inl f_leak)), (t_vacuum, .inl (k_vacuum, 40, .inl w_vacuum_6))]) hP hD [1, 2, 3, 4] [0] rfl rfl (by decide) (by decide) hk1 hFc hP1 hD1
    clear hP1 hD1 hK1
    clear hP hD hS hPc hDc hKc hFc hk1 hz1 ht hvm
    clear t
    revert hS1 hPn hDn; generalize H1 = H; generalize locs1 = locs; intro hS hP hD
    change va_P (dC, dI) vwCl [(h0, .inr (11, [.ref z_tubes, .ref z_grove, .ref z_season, .ref z_past, .ref z_tank, .ref z_pan, .ref z_cellar, .ref z_coop, .ref z_tape, .ref z_reader, .ref z_facts, .ref z_book, .ref z_spare, .int n_fp])), (z_tubes, .inr (10, [.ref t_to, .ref t_height, .ref t_member, .ref t_lengthHome, .ref t_runs, .ref t_leak, .ref t_vacuum, .ref t_reading, .int n_tb])), (t_to, .inl (k_to, 40, .inl f_to)), (t_leak, .inl (k_leak, 40, .inl f_leak)), (t_vacuum, .inl (k_vacuum, 40, .inl w_vacuum_6))] H at hP
    change va_D A [(h0, .inr (11, [.ref z_tubes, .ref z_grove, .ref z_season, .ref z_past, .ref z_tank, .ref z_pan, .ref z_cellar, .ref z_coop, .ref z_tape, .ref z_reader, .ref z_facts, .ref z_book, .ref z_spare, .int n_fp])), (z_tubes, .inr (10, [.ref t_to, .ref t_height, .ref t_member, .ref t_lengthHome, .ref t_runs, .ref t_leak, .ref t_vacuum, .ref t_reading, .int n_tb])), (t_to, .inl (k_to, 40, .inl f_to)), (t_leak, .inl (k_leak, 40, .inl f_leak)), (t_vacuum, .inl (k_vacuum, 40, .inl w_vacuum_6))] at hD
    refine lv_iconst (v := 1) hx hb dX11_pump_20 (by decide) ?_
    refine W.widen (k := 0) (n := 0) (Nat.le_of_ble_eq_true rfl) (Nat.le_of_ble_eq_true rfl) ?_
    have hP9 := hP.sub (ws' := [(h0, .inr (11, [.ref z_tubes, .ref z_grove, .ref z_season, .ref z_past, .ref z_tank, .ref z_pan, .ref z_cellar, .ref z_coop, .ref z_tape, .ref z_reader, .ref z_facts, .ref z_book, .ref z_spare, .int n_fp])), (z_tubes, .inr (10, [.ref t_to, .ref t_height, .ref t_member, .ref t_lengthHome, .ref t_runs, .ref t_leak, .ref t_vacuum, .ref t_reading, .int n_tb])), (t_to, .inl (k_to, 40, .inl f_to)), (t_leak, .inl (k_leak, 40, .inl f_leak)), (t_vacuum, .inl (k_vacuum, 40, .inl w_vacuum_6))]) [0, 1, 2, 3, 4] rfl
    have hD9 := hD.sub (ws' := [(h0, .inr (11, [.ref z_tubes, .ref z_grove, .ref z_season, .ref z_past, .ref z_tank, .ref z_pan, .ref z_cellar, .ref z_coop, .ref z_tape, .ref z_reader, .ref z_facts, .ref z_book, .ref z_spare, .int n_fp])), (z_tubes, .inr (10, [.ref t_to, .ref t_height, .ref t_member, .ref t_lengthHome, .ref t_runs, .ref t_leak, .ref t_vacuum, .ref t_reading, .int n_tb])), (t_to, .inl (k_to, 40, .inl f_to)), (t_leak, .inl (k_leak, 40, .inl f_leak)), (t_vacuum, .inl (k_vacuum, 40, .inl w_vacuum_6))]) [0, 1, 2, 3, 4] (by decide) rfl
    have hK9 := hK.sub (tys' := []) [] rfl
    exact W.zret (ty := .boolean) (v := 1) hx hb hr rfl (fun t ht hW => ⟨⟨1, (), rfl, (Or.inl ⟨rfl, (lg_X11_pump_0 n_tb v1 yb h_2)⟩), ⟨w_vacuum_6, e_7, by rw [ht]; exact hP9, va_K.moved hW.alike hK9, hD9⟩⟩, hS.F ht⟩) hS.2.2 dX11_pump_21
  · refine lv_if_ne (tgt := 12) hx hb dX11_pump_7 (by decide) (fun c_8 => absurd (by decide) c_8) ?_
    intro _
    refine lv_iconst (v := 0) hx hb dX11_pump_10 (by decide) ?_
    refine W.widen (k := 0) (n := 0) (Nat.le_of_ble_eq_true rfl) (Nat.le_of_ble_eq_true rfl) ?_
    have hP9 := hP.sub (ws' := [(h0, .inr (11, [.ref z_tubes, .ref z_grove, .ref z_season, .ref z_past, .ref z_tank, .ref z_pan, .ref z_cellar, .ref z_coop, .ref z_tape, .ref z_reader, .ref z_facts, .ref z_book, .ref z_spare, .int n_fp])), (z_tubes, .inr (10, [.ref t_to, .ref t_height, .ref t_member, .ref t_lengthHome, .ref t_runs, .ref t_leak, .ref t_vacuum, .ref t_reading, .int n_tb])), (t_to, .inl (k_to, 40, .inl f_to)), (t_leak, .inl (k_leak, 40, .inl f_leak)), (t_vacuum, .inl (k_vacuum, 40, .inl f_vacuum))]) [0, 1, 2, 3, 4] rfl
    have hD9 := hD.sub (ws' := [(h0, .inr (11, [.ref z_tubes, .ref z_grove, .ref z_season, .ref z_past, .ref z_tank, .ref z_pan, .ref z_cellar, .ref z_coop, .ref z_tape, .ref z_reader, .ref z_facts, .ref z_book, .ref z_spare, .int n_fp])), (z_tubes, .inr (10, [.ref t_to, .ref t_height, .ref t_member, .ref t_lengthHome, .ref t_runs, .ref t_leak, .ref t_vacuum, .ref t_reading, .int n_tb])), (t_to, .inl (k_to, 40, .inl f_to)), (t_leak, .inl (k_leak, 40, .inl f_leak)), (t_vacuum, .inl (k_vacuum, 40, .inl f_vacuum))]) [0, 1, 2, 3, 4] (by decide) rfl
    have hK9 := hK.sub (tys' := []) [] rfl
    exact W.zret (ty := .boolean) (v := 0) hx hb hr rfl (fun t ht hW => ⟨⟨0, (), rfl, (Or.inr (⟨rfl, (lg_X11_pump_1 n_tb v1 yb h_2)⟩)), ⟨f_vacuum, yvac, by rw [ht]; exact hP9, va_K.moved hW.alike hK9, hD9⟩⟩, hS.F ht⟩) hS.2.2 dX11_pump_11

theorem lg_X11_wood_0 (v1 : Int32) (h_2 : (0 : Int) ≤ v1.toInt ∧ v1.toInt ≤ (10000 : Int)) (h_5 : True) : True := by
  have := rg_rng v1; trivial
theorem lg_X11_wood_1 (v1 : Int32) (h_2 : ¬ ((0 : Int) ≤ v1.toInt ∧ v1.toInt ≤ (10000 : Int))) : True := by
  have := rg_rng v1; trivial
set_option maxHeartbeats 4000000 in
set_option maxRecDepth 100000 in
theorem kX11_wood (l : Launch) (dC : Nat → ClassId) (dI : Nat → Nat → Nat) (sz : Nat) (h0 : Nat) (z_tubes : Nat) (z_grove : Nat) (z_season : Nat) (z_past : Nat) (z_tank : Nat) (z_pan : Nat) (z_cellar : Nat) (z_coop : Nat) (z_tape : Nat) (z_reader : Nat) (z_facts : Nat) (z_book : Nat) (z_spare : Nat) (n_fp : Int32) (n_su : Int64) (n_pa : Int32) (n_he : Int32) (n_mi : Int32) (n_wo : Int32) (v1 : Int32) : Met l yX11_wood (Cond.code yX11_wood cX11_wood 2 (some .int) :: bg) ({ frames := 1, cells := 0, slots := 0, locals := 22 }) (pcW dC dI [.ref h0, .int v1] sz [(h0, .inr (11, [.ref z_tubes, .ref z_grove, .ref z_season, .ref z_past, .ref z_tank, .ref z_pan, .ref z_cellar, .ref z_coop, .ref z_tape, .ref z_reader, .ref z_facts, .ref z_book, .ref z_spare, .int n_fp])), (z_pan, .inr (3, [.long n_su, .int n_pa, .int n_he, .int n_mi, .int n_wo]))] []) (va_Qi (fun (r : Int32) (u : Unit) => True) (fun (u : Unit) (t : State) => ∃ (w_su : Int64) (w_pa : Int32) (w_he : Int32) (w_mi : Int32) (w_wo : Int32), va_P (dC, dI) vwCl [(h0, .inr (11, [.ref z_tubes, .ref z_grove, .ref z_season, .ref z_past, .ref z_tank, .ref z_pan, .ref z_cellar, .ref z_coop, .ref z_tape, .ref z_reader, .ref z_facts, .ref z_book, .ref z_spare, .int n_fp])), (z_pan, .inr (3, [.long w_su, .int w_pa, .int w_he, .int w_mi, .int w_wo]))] t.heap ∧ va_K (dC, dI) vwCl [] t ∧ va_D (va_A [(h0, .inr (11, [.ref z_tubes, .ref z_grove, .ref z_season, .ref z_past, .ref z_tank, .ref z_pan, .ref z_cellar, .ref z_coop, .ref z_tape, .ref z_reader, .ref z_facts, .ref z_book, .ref z_spare, .int n_fp])), (z_pan, .inr (3, [.long n_su, .int n_pa, .int n_he, .int n_mi, .int n_wo]))] sz) [(h0, .inr (11, [.ref z_tubes, .ref z_grove, .ref z_season, .ref z_past, .ref z_tank, .ref z_pan, .ref z_cellar, .ref z_coop, .ref z_tape, .ref z_reader, .ref z_facts, .ref z_book, .ref z_spare, .int n_fp])), (z_pan, .inr (3, [.long w_su, .int w_pa, .int w_he, .int w_mi, .int w_wo]))]) (va_A [(h0, .inr (11, [.ref z_tubes, .ref z_grove, .ref z_season, .ref z_past, .ref z_tank, .ref z_pan, .ref z_cellar, .ref z_coop, .ref z_tape, .ref z_reader, .ref z_facts, .ref z_book, .ref z_spare, .int n_fp])), (z_pan, .inr (3, [.long n_su, .int n_pa, .int n_he, .int n_mi, .int n_wo]))] sz)) 0 0 (va_A [(h0, .inr (11, [.ref z_tubes, .ref z_grove, .ref z_season, .ref z_past, .ref z_tank, .ref z_pan, .ref z_cellar, .ref z_coop, .ref z_tape, .ref z_reader, .ref z_facts, .ref z_book, .ref z_spare, .int n_fp])), (z_pan, .inr (3, [.long n_su, .int n_pa, .int n_he, .int n_mi, .int n_wo]))] sz) := by
  refine Met.ofW (cc := cX11_wood) (maxL := 2) (ret := (some .int)) pnX11 rfl ?_
  intro p e s m args below meth c s₁ B hml hv
  obtain ⟨rfl, hsz, hP, hK, hD0, hN⟩ := hv
  have hx := B.exec
  have hb := B.bytes
  have hr := B.returns
  have htb : ∀ w ∈ bg, w.before [.ref h0, .int v1].toArray s = true := fun w h => atoms_spec (ws := Cond.code yX11_wood cX11_wood 2 (some .int) :: bg) B.pre w (List.mem_cons_of_mem _ h)
  have hown : s.vm.findClass RX11 = some m.cls := findClass_of_methodNamed B.named
  have hlocks := B.notSynchronized
  subst hsz
  have hD := hD0.self (sz := s.heap.size)
  generalize hAe : va_A [(h0, .inr (11, [.ref z_tubes, .ref z_grove, .ref z_season, .ref z_past, .ref z_tank, .ref z_pan, .ref z_cellar, .ref z_coop, .ref z_tape, .ref z_reader, .ref z_facts, .ref z_book, .ref z_spare, .int n_fp])), (z_pan, .inr (3, [.long n_su, .int n_pa, .int n_he, .int n_mi, .int n_wo]))] s.heap.size = A at hD ⊢
  have hA : ∀ q : Nat, s.heap.size ≤ q → A q := fun q h => by rw [← hAe]; exact Or.inr h
  have hS : va_S A s.heap s.heap [] := va_S.rf
  have hl := lv_entry ([.ref h0, .int v1]) (n := 2) (Nat.le_of_ble_eq_true rfl)
  rw [lg_entry_eq]
  generalize (lg_sl ([.ref h0, .int v1]) ++ List.replicate (2 - (lg_sl ([.ref h0, .int v1])).length) Slot.unset).toArray = ls at hl ⊢
  change lv_has ls 2 [(0, .ref h0), (1, .int v1)] at hl
  clear hD0 hAe
  refine go0 (wsP := fun H => va_P (dC, dI) vwCl [(h0, .inr (11, [.ref z_tubes, .ref z_grove, .ref z_season, .ref z_past, .ref z_tank, .ref z_pan, .ref z_cellar, .ref z_coop, .ref z_tape, .ref z_reader, .ref z_facts, .ref z_book, .ref z_spare, .int n_fp])), (z_pan, .inr (3, [.long n_su, .int n_pa, .int n_he, .int n_mi, .int n_wo]))] H) hP hS ?_
  clear hP hS; intro H locs hP hS
  change va_P (dC, dI) vwCl [(h0, .inr (11, [.ref z_tubes, .ref z_grove, .ref z_season, .ref z_past, .ref z_tank, .ref z_pan, .ref z_cellar, .ref z_coop, .ref z_tape, .ref z_reader, .ref z_facts, .ref z_book, .ref z_spare, .int n_fp])), (z_pan, .inr (3, [.long n_su, .int n_pa, .int n_he, .int n_mi, .int n_wo]))] H at hP
  refine lv_iload_n hx hb dX11_wood_0 rfl (lv_at hl 1 rfl) ?_
  refine lv_iconst (v := 0) hx hb dX11_wood_1 (by decide) ?_
  refine lv_sipush (v := 10000) hx hb dX11_wood_2 (by decide) ?_
  have hPc := hP.sub (ws' := []) [] rfl
  have hDc := hD.sub (ws' := []) [] (by decide) rfl
  have hKc := hK.sub (tys' := []) [] rfl
  have hFc := va_free (wc := []) hD hS hA [] rfl
  refine va_calli (va_runS (As := [.int v1, .int 0, .int 10000]) (rest := []) ⟨hx, hb, hml, hown, htb⟩ (kX11_isWithin l dC dI H.size v1 0 10000 ) ⟨callB_of 3 htb (gd_c m_355) rfl rfl rfl (htb _ m_1) (htb _ m_353) hdX11_isWithin ⟨(Nat.le_of_ble_eq_true rfl), (Nat.le_of_ble_eq_true rfl)⟩, htb _ m_354⟩ ⟨pcW_blind, pcW_at hPc hKc hDc hN⟩ rfl rfl hl.1 rfl (lv_room (Nat.le_of_ble_eq_true rfl)) dX11_wood_5 ⟨(Nat.le_of_ble_eq_true rfl), (Nat.le_of_ble_eq_true rfl)⟩) hS (fun q _ h => hFc q h) hFc (fun r_1 u t H1 locs1 ht hvm h_2 hB hz1 hk1 hS1 => ?_)
  obtain ⟨hP1, hK1, hD1⟩ := hB
  rw [ht] at hP1
  obtain ⟨hPn, hDn⟩ := va_join (wr := [(h0, .inr (11, [.ref z_tubes, .ref z_grove, .ref z_season, .ref z_past, .ref z_tank, .ref z_pan, .ref z_cellar, .ref z_coop, .ref z_tape, .ref z_reader, .ref z_facts, .ref z_book, .ref z_spare, .int n_fp])), (z_pan, .inr (3, [.long n_su, .int n_pa, .int n_he, .int n_mi, .int n_wo]))]) (w1 := []) hP hD [] [0, 1] rfl rfl (by decide) (by decide) hk1 hFc hP1 hD1
  clear hP1 hD1 hK1
  clear hP hD hS hPc hDc hKc hFc hk1 hz1 ht hvm
  clear t
  revert hS1 hPn hDn; generalize H1 = H; generalize locs1 = locs; intro hS hP hD
  change va_P (dC, dI) vwCl [(h0, .inr (11, [.ref z_tubes, .ref z_grove, .ref z_season, .ref z_past, .ref z_tank, .ref z_pan, .ref z_cellar, .ref z_coop, .ref z_tape, .ref z_reader, .ref z_facts, .ref z_book, .ref z_spare, .int n_fp])), (z_pan, .inr (3, [.long n_su, .int n_pa, .int n_he, .int n_mi, .int n_wo]))] H at hP
  change va_D A [(h0, .inr (11, [.ref z_tubes, .ref z_grove, .ref z_season, .ref z_past, .ref z_tank, .ref z_pan, .ref z_cellar, .ref z_coop, .ref z_tape, .ref z_reader, .ref z_facts, .ref z_book, .ref z_spare, .int n_fp])), (z_pan, .inr (3, [.long n_su, .int n_pa, .int n_he, .int n_mi, .int n_wo]))] at hD
  rcases h_2 with ⟨rfl, h_2⟩ | ⟨rfl, h_2⟩
  · refine lv_if_eq (tgt := 22) hx hb dX11_wood_8 (by decide) (fun c_3 => absurd c_3 (by decide)) ?_
    intro _
    refine lv_aload_n hx hb dX11_wood_11 rfl (lv_at hl 0 rfl) ?_
    refine va_get (D := (dC, dI)) (ci := 11) (v := .ref z_pan) (C := RX11) (T := TX11) (N := 14) hx hb htb iX11 hown hK hP 0 rfl rfl 5 (Nat.le_of_ble_eq_true rfl) (htb _ m_307) (fun _ h9 => h9) rfl dX11_wood_12 ?_
    refine lv_iload_n hx hb dX11_wood_15 rfl (lv_at hl 1 rfl) ?_
    have hPc := hP.sub (ws' := [(z_pan, .inr (3, [.long n_su, .int n_pa, .int n_he, .int n_mi, .int n_wo]))]) [1] rfl
    have hDc := hD.sub (ws' := [(z_pan, .inr (3, [.long n_su, .int n_pa, .int n_he, .int n_mi, .int n_wo]))]) [1] (by decide) rfl
    have hKc := hK.sub (tys' := []) [] rfl
    have hFc := va_free (wc := [(z_pan, .inr (3, [.long n_su, .int n_pa, .int n_he, .int n_mi, .int n_wo]))]) hD hS hA [1] rfl
    refine va_calli (va_runV (C := RX3) (As := [.int v1]) (rest := []) ⟨hx, hb, hml, hown, htb⟩ (kX3_stack l dC dI H.size z_pan n_su n_pa n_he n_mi n_wo v1 ) ⟨callB_of 1 htb (gd_c m_633) rfl rfl rfl (htb _ m_7) (htb _ m_630) hdX3_stack ⟨(Nat.le_of_ble_eq_true rfl), (Nat.le_of_ble_eq_true rfl)⟩, htb _ m_631, htb _ m_632⟩ ⟨pcW_blind, va_recv hKc hPc (ci := 3) (q0 := 0) rfl rfl, pcW_at hPc hKc hDc hN⟩ rfl rfl hl.1 rfl (lv_room (Nat.le_of_ble_eq_true rfl)) dX11_wood_16 ⟨(Nat.le_of_ble_eq_true rfl), (Nat.le_of_ble_eq_true rfl)⟩) hS (fun q _ h => hFc q h) hFc (fun r_4 u t H1 locs1 ht hvm h_5 hB hz1 hk1 hS1 => ?_)
    obtain ⟨w_su_6, w_pa_7, w_he_8, w_mi_9, w_wo_10, hP1, hK1, hD1⟩ := hB
    rw [ht] at hP1
    obtain ⟨hPn, hDn⟩ := va_join (wr := [(h0, .inr (11, [.ref z_tubes, .ref z_grove, .ref z_season, .ref z_past, .ref z_tank, .ref z_pan, .ref z_cellar, .ref z_coop, .ref z_tape, .ref z_reader, .ref z_facts, .ref z_book, .ref z_spare, .int n_fp]))]) (w1 := [(z_pan, .inr (3, [.long w_su_6, .int w_pa_7, .int w_he_8, .int w_mi_9, .int w_wo_10]))]) hP hD [1] [0] rfl rfl (by decide) (by decide) hk1 hFc hP1 hD1
    clear hP1 hD1 hK1
    clear hP hD hS hPc hDc hKc hFc hk1 hz1 ht hvm
    clear t
    revert hS1 hPn hDn; generalize H1 = H; generalize locs1 = locs; intro hS hP hD
    change va_P (dC, dI) vwCl [(h0, .inr (11, [.ref z_tubes, .ref z_grove, .ref z_season, .ref z_past, .ref z_tank, .ref z_pan, .ref z_cellar, .ref z_coop, .ref z_tape, .ref z_reader, .ref z_facts, .ref z_book, .ref z_spare, .int n_fp])), (z_pan, .inr (3, [.long w_su_6, .int w_pa_7, .int w_he_8, .int w_mi_9, .int w_wo_10]))] H at hP
    change va_D A [(h0, .inr (11, [.ref z_tubes, .ref z_grove, .ref z_season, .ref z_past, .ref z_tank, .ref z_pan, .ref z_cellar, .ref z_coop, .ref z_tape, .ref z_reader, .ref z_facts, .ref z_book, .ref z_spare, .int n_fp])), (z_pan, .inr (3, [.long w_su_6, .int w_pa_7, .int w_he_8, .int w_mi_9, .int w_wo_10]))] at hD
    refine lv_goto (tgt := 23) hx hb dX11_wood_19 (by decide) ?_
    refine W.widen (k := 0) (n := 0) (Nat.le_of_ble_eq_true rfl) (Nat.le_of_ble_eq_true rfl) ?_
    have hP9 := hP.sub (ws' := [(h0, .inr (11, [.ref z_tubes, .ref z_grove, .ref z_season, .ref z_past, .ref z_tank, .ref z_pan, .ref z_cellar, .ref z_coop, .ref z_tape, .ref z_reader, .ref z_facts, .ref z_book, .ref z_spare, .int n_fp])), (z_pan, .inr (3, [.long w_su_6, .int w_pa_7, .int w_he_8, .int w_mi_9, .int w_wo_10]))]) [0, 1] rfl
    have hD9 := hD.sub (ws' := [(h0, .inr (11, [.ref z_tubes, .ref z_grove, .ref z_season, .ref z_past, .ref z_tank, .ref z_pan, .ref z_cellar, .ref z_coop, .ref z_tape, .ref z_reader, .ref z_facts, .ref z_book, .ref z_spare, .int n_fp])), (z_pan, .inr (3, [.long w_su_6, .int w_pa_7, .int w_he_8, .int w_mi_9, .int w_wo_10]))]) [0, 1] (by decide) rfl
    have hK9 := hK.sub (tys' := []) [] rfl
    exact W.iret (v := r_4) hx hb hr (fun t ht hW => ⟨⟨r_4, (), rfl, (lg_X11_wood_0 v1 h_2 h_5), ⟨w_su_6, w_pa_7, w_he_8, w_mi_9, w_wo_10, by rw [ht]; exact hP9, va_K.moved hW.alike hK9, hD9⟩⟩, hS.F ht⟩) hS.2.2 dX11_wood_23
  · refine lv_if_eq (tgt := 22) hx hb dX11_wood_8 (by decide) ?_ (fun c_11 => absurd (by decide) c_11)
    intro _
    refine lv_iconst (v := (-1)) hx hb dX11_wood_22 (by decide) ?_
    refine W.widen (k := 0) (n := 0) (Nat.le_of_ble_eq_true rfl) (Nat.le_of_ble_eq_true rfl) ?_
    have hP9 := hP.sub (ws' := [(h0, .inr (11, [.ref z_tubes, .ref z_grove, .ref z_season, .ref z_past, .ref z_tank, .ref z_pan, .ref z_cellar, .ref z_coop, .ref z_tape, .ref z_reader, .ref z_facts, .ref z_book, .ref z_spare, .int n_fp])), (z_pan, .inr (3, [.long n_su, .int n_pa, .int n_he, .int n_mi, .int n_wo]))]) [0, 1] rfl
    have hD9 := hD.sub (ws' := [(h0, .inr (11, [.ref z_tubes, .ref z_grove, .ref z_season, .ref z_past, .ref z_tank, .ref z_pan, .ref z_cellar, .ref z_coop, .ref z_tape, .ref z_reader, .ref z_facts, .ref z_book, .ref z_spare, .int n_fp])), (z_pan, .inr (3, [.long n_su, .int n_pa, .int n_he, .int n_mi, .int n_wo]))]) [0, 1] (by decide) rfl
    have hK9 := hK.sub (tys' := []) [] rfl
    exact W.iret (v := (-1)) hx hb hr (fun t ht hW => ⟨⟨(-1), (), rfl, (lg_X11_wood_1 v1 h_2), ⟨n_su, n_pa, n_he, n_mi, n_wo, by rw [ht]; exact hP9, va_K.moved hW.alike hK9, hD9⟩⟩, hS.F ht⟩) hS.2.2 dX11_wood_23

theorem lg_X11_pan_0  (h_2 : True) : True := by
  trivial
set_option maxHeartbeats 4000000 in
set_option maxRecDepth 100000 in
theorem kX11_pan (l : Launch) (dC : Nat → ClassId) (dI : Nat → Nat → Nat) (sz : Nat) (h0 : Nat) (z_tubes : Nat) (z_grove : Nat) (z_season : Nat) (z_past : Nat) (z_tank : Nat) (z_pan : Nat) (z_cellar : Nat) (z_coop : Nat) (z_tape : Nat) (z_reader : Nat) (z_facts : Nat) (z_book : Nat) (z_spare : Nat) (n_fp : Int32) (n_su : Int64) (n_pa : Int32) (n_he : Int32) (n_mi : Int32) (n_wo : Int32) (v1 : Int32) : Met l yX11_pan (Cond.code yX11_pan cX11_pan 2 (some .int) :: bg) ({ frames := 3, cells := 0, slots := 0, locals := 61 }) (pcW dC dI [.ref h0, .int v1] sz [(h0, .inr (11, [.ref z_tubes, .ref z_grove, .ref z_season, .ref z_past, .ref z_tank, .ref z_pan, .ref z_cellar, .ref z_coop, .ref z_tape, .ref z_reader, .ref z_facts, .ref z_book, .ref z_spare, .int n_fp])), (z_pan, .inr (3, [.long n_su, .int n_pa, .int n_he, .int n_mi, .int n_wo]))] []) (va_Qi (fun (r : Int32) (u : Unit) => True) (fun (u : Unit) (t : State) => va_P (dC, dI) vwCl [(h0, .inr (11, [.ref z_tubes, .ref z_grove, .ref z_season, .ref z_past, .ref z_tank, .ref z_pan, .ref z_cellar, .ref z_coop, .ref z_tape, .ref z_reader, .ref z_facts, .ref z_book, .ref z_spare, .int n_fp])), (z_pan, .inr (3, [.long n_su, .int n_pa, .int n_he, .int n_mi, .int n_wo]))] t.heap ∧ va_K (dC, dI) vwCl [] t ∧ va_D (va_A [(h0, .inr (11, [.ref z_tubes, .ref z_grove, .ref z_season, .ref z_past, .ref z_tank, .ref z_pan, .ref z_cellar, .ref z_coop, .ref z_tape, .ref z_reader, .ref z_facts, .ref z_book, .ref z_spare, .int n_fp])), (z_pan, .inr (3, [.long n_su, .int n_pa, .int n_he, .int n_mi, .int n_wo]))] sz) [(h0, .inr (11, [.ref z_tubes, .ref z_grove, .ref z_season, .ref z_past, .ref z_tank, .ref z_pan, .ref z_cellar, .ref z_coop, .ref z_tape, .ref z_reader, .ref z_facts, .ref z_book, .ref z_spare, .int n_fp])), (z_pan, .inr (3, [.long n_su, .int n_pa, .int n_he, .int n_mi, .int n_wo]))]) (va_A [(h0, .inr (11, [.ref z_tubes, .ref z_grove, .ref z_season, .ref z_past, .ref z_tank, .ref z_pan, .ref z_cellar, .ref z_coop, .ref z_tape, .ref z_reader, .ref z_facts, .ref z_book, .ref z_spare, .int n_fp])), (z_pan, .inr (3, [.long n_su, .int n_pa, .int n_he, .int n_mi, .int n_wo]))] sz)) 0 0 (va_A [(h0, .inr (11, [.ref z_tubes, .ref z_grove, .ref z_season, .ref z_past, .ref z_tank, .ref z_pan, .ref z_cellar, .ref z_coop, .ref z_tape, .ref z_reader, .ref z_facts, .ref z_book, .ref z_spare, .int n_fp])), (z_pan, .inr (3, [.long n_su, .int n_pa, .int n_he, .int n_mi, .int n_wo]))] sz) := by
  refine Met.ofW (cc := cX11_pan) (maxL := 2) (ret := (some .int)) pnX11 rfl ?_
  intro p e s m args below meth c s₁ B hml hv
  obtain ⟨rfl, hsz, hP, hK, hD0, hN⟩ := hv
  have hx := B.exec
  have hb := B.bytes
  have hr := B.returns
  have htb : ∀ w ∈ bg, w.before [.ref h0, .int v1].toArray s = true := fun w h => atoms_spec (ws := Cond.code yX11_pan cX11_pan 2 (some .int) :: bg) B.pre w (List.mem_cons_of_mem _ h)
  have hown : s.vm.findClass RX11 = some m.cls := findClass_of_methodNamed B.named
  have hlocks := B.notSynchronized
  subst hsz
  have hD := hD0.self (sz := s.heap.size)
  generalize hAe : va_A [(h0, .inr (11, [.ref z_tubes, .ref z_grove, .ref z_season, .ref z_past, .ref z_tank, .ref z_pan, .ref z_cellar, .ref z_coop, .ref z_tape, .ref z_reader, .ref z_facts, .ref z_book, .ref z_spare, .int n_fp])), (z_pan, .inr (3, [.long n_su, .int n_pa, .int n_he, .int n_mi, .int n_wo]))] s.heap.size = A at hD ⊢
  have hA : ∀ q : Nat, s.heap.size ≤ q → A q := fun q h => by rw [← hAe]; exact Or.inr h
  have hS : va_S A s.heap s.heap [] := va_S.rf
  have hl := lv_entry ([.ref h0, .int v1]) (n := 2) (Nat.le_of_ble_eq_true rfl)
  rw [lg_entry_eq]
  generalize (lg_sl ([.ref h0, .int v1]) ++ List.replicate (2 - (lg_sl ([.ref h0, .int v1])).length) Slot.unset).toArray = ls at hl ⊢
  change lv_has ls 2 [(0, .ref h0), (1, .int v1)] at hl
  clear hD0 hAe
  refine go0 (wsP := fun H => va_P (dC, dI) vwCl [(h0, .inr (11, [.ref z_tubes, .ref z_grove, .ref z_season, .ref z_past, .ref z_tank, .ref z_pan, .ref z_cellar, .ref z_coop, .ref z_tape, .ref z_reader, .ref z_facts, .ref z_book, .ref z_spare, .int n_fp])), (z_pan, .inr (3, [.long n_su, .int n_pa, .int n_he, .int n_mi, .int n_wo]))] H) hP hS ?_
  clear hP hS; intro H locs hP hS
  change va_P (dC, dI) vwCl [(h0, .inr (11, [.ref z_tubes, .ref z_grove, .ref z_season, .ref z_past, .ref z_tank, .ref z_pan, .ref z_cellar, .ref z_coop, .ref z_tape, .ref z_reader, .ref z_facts, .ref z_book, .ref z_spare, .int n_fp])), (z_pan, .inr (3, [.long n_su, .int n_pa, .int n_he, .int n_mi, .int n_wo]))] H at hP
  refine lv_aload_n hx hb dX11_pan_0 rfl (lv_at hl 0 rfl) ?_
  refine va_get (D := (dC, dI)) (ci := 11) (v := .ref z_pan) (C := RX11) (T := TX11) (N := 14) hx hb htb iX11 hown hK hP 0 rfl rfl 5 (Nat.le_of_ble_eq_true rfl) (htb _ m_307) (fun _ h9 => h9) rfl dX11_pan_1 ?_
  refine lv_iload_n hx hb dX11_pan_4 rfl (lv_at hl 1 rfl) ?_
  have hPc := hP.sub (ws' := [(z_pan, .inr (3, [.long n_su, .int n_pa, .int n_he, .int n_mi, .int n_wo]))]) [1] rfl
  have hDc := hD.sub (ws' := [(z_pan, .inr (3, [.long n_su, .int n_pa, .int n_he, .int n_mi, .int n_wo]))]) [1] (by decide) rfl
  have hKc := hK.sub (tys' := []) [] rfl
  have hFc := va_free (wc := [(z_pan, .inr (3, [.long n_su, .int n_pa, .int n_he, .int n_mi, .int n_wo]))]) hD hS hA [1] rfl
  refine va_calli (va_runV (C := RX3) (As := [.int v1]) (rest := []) ⟨hx, hb, hml, hown, htb⟩ (kX3_tell l dC dI H.size z_pan n_su n_pa n_he n_mi n_wo v1 ) ⟨callB_of 1 htb (gd_c m_701) rfl rfl rfl (htb _ m_7) (htb _ m_698) hdX3_tell ⟨(Nat.le_of_ble_eq_true rfl), (Nat.le_of_ble_eq_true rfl)⟩, htb _ m_699, htb _ m_700⟩ ⟨pcW_blind, va_recv hKc hPc (ci := 3) (q0 := 0) rfl rfl, pcW_at hPc hKc hDc hN⟩ rfl rfl hl.1 rfl (lv_room (Nat.le_of_ble_eq_true rfl)) dX11_pan_5 ⟨(Nat.le_of_ble_eq_true rfl), (Nat.le_of_ble_eq_true rfl)⟩) hS (fun q _ h => hFc q h) hFc (fun r_1 u t H1 locs1 ht hvm h_2 hB hz1 hk1 hS1 => ?_)
  obtain ⟨hP1, hK1, hD1⟩ := hB
  rw [ht] at hP1
  obtain ⟨hPn, hDn⟩ := va_join (wr := [(h0, .inr (11, [.ref z_tubes, .ref z_grove, .ref z_season, .ref z_past, .ref z_tank, .ref z_pan, .ref z_cellar, .ref z_coop, .ref z_tape, .ref z_reader, .ref z_facts, .ref z_book, .ref z_spare, .int n_fp]))]) (w1 := [(z_pan, .inr (3, [.long n_su, .int n_pa, .int n_he, .int n_mi, .int n_wo]))]) hP hD [1] [0] rfl rfl (by decide) (by decide) hk1 hFc hP1 hD1
  clear hP1 hD1 hK1
  clear hP hD hS hPc hDc hKc hFc hk1 hz1 ht hvm
  clear t
  revert hS1 hPn hDn; generalize H1 = H; generalize locs1 = locs; intro hS hP hD
  change va_P (dC, dI) vwCl [(h0, .inr (11, [.ref z_tubes, .ref z_grove, .ref z_season, .ref z_past, .ref z_tank, .ref z_pan, .ref z_cellar, .ref z_coop, .ref z_tape, .ref z_reader, .ref z_facts, .ref z_book, .ref z_spare, .int n_fp])), (z_pan, .inr (3, [.long n_su, .int n_pa, .int n_he, .int n_mi, .int n_wo]))] H at hP
  change va_D A [(h0, .inr (11, [.ref z_tubes, .ref z_grove, .ref z_season, .ref z_past, .ref z_tank, .ref z_pan, .ref z_cellar, .ref z_coop, .ref z_tape, .ref z_reader, .ref z_facts, .ref z_book, .ref z_spare, .int n_fp])), (z_pan, .inr (3, [.long n_su, .int n_pa, .int n_he, .int n_mi, .int n_wo]))] at hD
  refine W.widen (k := 0) (n := 0) (Nat.le_of_ble_eq_true rfl) (Nat.le_of_ble_eq_true rfl) ?_
  have hP9 := hP.sub (ws' := [(h0, .inr (11, [.ref z_tubes, .ref z_grove, .ref z_season, .ref z_past, .ref z_tank, .ref z_pan, .ref z_cellar, .ref z_coop, .ref z_tape, .ref z_reader, .ref z_facts, .ref z_book, .ref z_spare, .int n_fp])), (z_pan, .inr (3, [.long n_su, .int n_pa, .int n_he, .int n_mi, .int n_wo]))]) [0, 1] rfl
  have hD9 := hD.sub (ws' := [(h0, .inr (11, [.ref z_tubes, .ref z_grove, .ref z_season, .ref z_past, .ref z_tank, .ref z_pan, .ref z_cellar, .ref z_coop, .ref z_tape, .ref z_reader, .ref z_facts, .ref z_book, .ref z_spare, .int n_fp])), (z_pan, .inr (3, [.long n_su, .int n_pa, .int n_he, .int n_mi, .int n_wo]))]) [0, 1] (by decide) rfl
  have hK9 := hK.sub (tys' := []) [] rfl
  exact W.iret (v := r_1) hx hb hr (fun t ht hW => ⟨⟨r_1, (), rfl, (lg_X11_pan_0 h_2), ⟨by rw [ht]; exact hP9, va_K.moved hW.alike hK9, hD9⟩⟩, hS.F ht⟩) hS.2.2 dX11_pan_8

theorem lg_X11_dump_0  : True := by
  trivial
set_option maxHeartbeats 4000000 in
set_option maxRecDepth 100000 in
theorem kX11_dump (l : Launch) (dC : Nat → ClassId) (dI : Nat → Nat → Nat) (sz : Nat) (h0 : Nat) (z_tubes : Nat) (z_grove : Nat) (z_season : Nat) (z_past : Nat) (z_tank : Nat) (z_pan : Nat) (z_cellar : Nat) (z_coop : Nat) (z_tape : Nat) (z_reader : Nat) (z_facts : Nat) (z_book : Nat) (z_spare : Nat) (n_fp : Int32) (n_su : Int64) (n_pa : Int32) (n_he : Int32) (n_mi : Int32) (n_wo : Int32) : Met l yX11_dump (Cond.code yX11_dump cX11_dump 2 (some .int) :: bg) ({ frames := 1, cells := 0, slots := 0, locals := 20 }) (pcW dC dI [.ref h0] sz [(h0, .inr (11, [.ref z_tubes, .ref z_grove, .ref z_season, .ref z_past, .ref z_tank, .ref z_pan, .ref z_cellar, .ref z_coop, .ref z_tape, .ref z_reader, .ref z_facts, .ref z_book, .ref z_spare, .int n_fp])), (z_pan, .inr (3, [.long n_su, .int n_pa, .int n_he, .int n_mi, .int n_wo]))] []) (va_Qi (fun (r : Int32) (u : Unit) => True) (fun (u : Unit) (t : State) => ∃ (w_su : Int64) (w_pa : Int32) (w_he : Int32) (w_mi : Int32) (w_wo : Int32), va_P (dC, dI) vwCl [(h0, .inr (11, [.ref z_tubes, .ref z_grove, .ref z_season, .ref z_past, .ref z_tank, .ref z_pan, .ref z_cellar, .ref z_coop, .ref z_tape, .ref z_reader, .ref z_facts, .ref z_book, .ref z_spare, .int n_fp])), (z_pan, .inr (3, [.long w_su, .int w_pa, .int w_he, .int w_mi, .int w_wo]))] t.heap ∧ va_K (dC, dI) vwCl [] t ∧ va_D (va_A [(h0, .inr (11, [.ref z_tubes, .ref z_grove, .ref z_season, .ref z_past, .ref z_tank, .ref z_pan, .ref z_cellar, .ref z_coop, .ref z_tape, .ref z_reader, .ref z_facts, .ref z_book, .ref z_spare, .int n_fp])), (z_pan, .inr (3, [.long n_su, .int n_pa, .int n_he, .int n_mi, .int n_wo]))] sz) [(h0, .inr (11, [.ref z_tubes, .ref z_grove, .ref z_season, .ref z_past, .ref z_tank, .ref z_pan, .ref z_cellar, .ref z_coop, .ref z_tape, .ref z_reader, .ref z_facts, .ref z_book, .ref z_spare, .int n_fp])), (z_pan, .inr (3, [.long w_su, .int w_pa, .int w_he, .int w_mi, .int w_wo]))]) (va_A [(h0, .inr (11, [.ref z_tubes, .ref z_grove, .ref z_season, .ref z_past, .ref z_tank, .ref z_pan, .ref z_cellar, .ref z_coop, .ref z_tape, .ref z_reader, .ref z_facts, .ref z_book, .ref z_spare, .int n_fp])), (z_pan, .inr (3, [.long n_su, .int n_pa, .int n_he, .int n_mi, .int n_wo]))] sz)) 0 0 (va_A [(h0, .inr (11, [.ref z_tubes, .ref z_grove, .ref z_season, .ref z_past, .ref z_tank, .ref z_pan, .ref z_cellar, .ref z_coop, .ref z_tape, .ref z_reader, .ref z_facts, .ref z_book, .ref z_spare, .int n_fp])), (z_pan, .inr (3, [.long n_su, .int n_pa, .int n_he, .int n_mi, .int n_wo]))] sz) := by
  refine Met.ofW (cc := cX11_dump) (maxL := 2) (ret := (some .int)) pnX11 rfl ?_
  intro p e s m args below meth c s₁ B hml hv
  obtain ⟨rfl, hsz, hP, hK, hD0, hN⟩ := hv
  have hx := B.exec
  have hb := B.bytes
  have hr := B.returns
  have htb : ∀ w ∈ bg, w.before [.ref h0].toArray s = true := fun w h => atoms_spec (ws := Cond.code yX11_dump cX11_dump 2 (some .int) :: bg) B.pre w (List.mem_cons_of_mem _ h)
  have hown : s.vm.findClass RX11 = some m.cls := findClass_of_methodNamed B.named
  have hlocks := B.notSynchronized
  subst hsz
  have hD := hD0.self (sz := s.heap.size)
  generalize hAe : va_A [(h0, .inr (11, [.ref z_tubes, .ref z_grove, .ref z_season, .ref z_past, .ref z_tank, .ref z_pan, .ref z_cellar, .ref z_coop, .ref z_tape, .ref z_reader, .ref z_facts, .ref z_book, .ref z_spare, .int n_fp])), (z_pan, .inr (3, [.long n_su, .int n_pa, .int n_he, .int n_mi, .int n_wo]))] s.heap.size = A at hD ⊢
  have hA : ∀ q : Nat, s.heap.size ≤ q → A q := fun q h => by rw [← hAe]; exact Or.inr h
  have hS : va_S A s.heap s.heap [] := va_S.rf
  have hl := lv_entry ([.ref h0]) (n := 2) (Nat.le_of_ble_eq_true rfl)
  rw [lg_entry_eq]
  generalize (lg_sl ([.ref h0]) ++ List.replicate (2 - (lg_sl ([.ref h0])).length) Slot.unset).toArray = ls at hl ⊢
  change lv_has ls 2 [(0, .ref h0)] at hl
  clear hD0 hAe
  refine go0 (wsP := fun H => va_P (dC, dI) vwCl [(h0, .inr (11, [.ref z_tubes, .ref z_grove, .ref z_season, .ref z_past, .ref z_tank, .ref z_pan, .ref z_cellar, .ref z_coop, .ref z_tape, .ref z_reader, .ref z_facts, .ref z_book, .ref z_spare, .int n_fp])), (z_pan, .inr (3, [.long n_su, .int n_pa, .int n_he, .int n_mi, .int n_wo]))] H) hP hS ?_
  clear hP hS; intro H locs hP hS
  change va_P (dC, dI) vwCl [(h0, .inr (11, [.ref z_tubes, .ref z_grove, .ref z_season, .ref z_past, .ref z_tank, .ref z_pan, .ref z_cellar, .ref z_coop, .ref z_tape, .ref z_reader, .ref z_facts, .ref z_book, .ref z_spare, .int n_fp])), (z_pan, .inr (3, [.long n_su, .int n_pa, .int n_he, .int n_mi, .int n_wo]))] H at hP
  refine lv_aload_n hx hb dX11_dump_0 rfl (lv_at hl 0 rfl) ?_
  refine va_get (D := (dC, dI)) (ci := 11) (v := .ref z_pan) (C := RX11) (T := TX11) (N := 14) hx hb htb iX11 hown hK hP 0 rfl rfl 5 (Nat.le_of_ble_eq_true rfl) (htb _ m_307) (fun _ h9 => h9) rfl dX11_dump_1 ?_
  refine va_getN (host := "MapleLines") (D := (dC, dI)) (ci := 3) (v := .int n_pa) (C := RX3) (T := TX3) (N := 5) hx hb htb iX3 hown hK hP 1 rfl rfl 1 (Nat.le_of_ble_eq_true rfl) (va_Nw.use rfl (hN.1 _ nm_15)) (fun _ h9 => h9) rfl dX11_dump_4 ?_
  refine lv_istore_n (lv' := [(1, .int n_pa), (0, .ref h0)]) hx hb dX11_dump_7 rfl hl (by decide) rfl ?_
  clear hl; intro ls hl
  refine lv_aload_n hx hb dX11_dump_8 rfl (lv_at hl 1 rfl) ?_
  refine va_get (D := (dC, dI)) (ci := 11) (v := .ref z_pan) (C := RX11) (T := TX11) (N := 14) hx hb htb iX11 hown hK hP 0 rfl rfl 5 (Nat.le_of_ble_eq_true rfl) (htb _ m_307) (fun _ h9 => h9) rfl dX11_dump_9 ?_
  have hPc := hP.sub (ws' := [(z_pan, .inr (3, [.long n_su, .int n_pa, .int n_he, .int n_mi, .int n_wo]))]) [1] rfl
  have hDc := hD.sub (ws' := [(z_pan, .inr (3, [.long n_su, .int n_pa, .int n_he, .int n_mi, .int n_wo]))]) [1] (by decide) rfl
  have hKc := hK.sub (tys' := []) [] rfl
  have hFc := va_free (wc := [(z_pan, .inr (3, [.long n_su, .int n_pa, .int n_he, .int n_mi, .int n_wo]))]) hD hS hA [1] rfl
  refine va_callv (va_runV (C := RX3) (As := []) (rest := []) ⟨hx, hb, hml, hown, htb⟩ (kX3_empty l dC dI H.size z_pan n_su n_pa n_he n_mi n_wo ) ⟨callB_of 0 htb (gd_c m_589) rfl rfl rfl (htb _ m_7) (htb _ m_586) hdX3_empty ⟨(Nat.le_of_ble_eq_true rfl), (Nat.le_of_ble_eq_true rfl)⟩, htb _ m_587, htb _ m_588⟩ ⟨pcW_blind, va_recv hKc hPc (ci := 3) (q0 := 0) rfl rfl, pcW_at hPc hKc hDc hN⟩ rfl rfl hl.1 rfl (lv_room (Nat.le_of_ble_eq_true rfl)) dX11_dump_12 ⟨(Nat.le_of_ble_eq_true rfl), (Nat.le_of_ble_eq_true rfl)⟩) hS (fun q _ h => hFc q h) hFc (fun u t H1 locs1 ht hvm h_2 hB hz1 hk1 hS1 => ?_)
  obtain ⟨w_su_3, w_pa_4, w_he_5, w_mi_6, w_wo_7, hP1, hK1, hD1⟩ := hB
  rw [ht] at hP1
  obtain ⟨hPn, hDn⟩ := va_join (wr := [(h0, .inr (11, [.ref z_tubes, .ref z_grove, .ref z_season, .ref z_past, .ref z_tank, .ref z_pan, .ref z_cellar, .ref z_coop, .ref z_tape, .ref z_reader, .ref z_facts, .ref z_book, .ref z_spare, .int n_fp]))]) (w1 := [(z_pan, .inr (3, [.long w_su_3, .int w_pa_4, .int w_he_5, .int w_mi_6, .int w_wo_7]))]) hP hD [1] [0] rfl rfl (by decide) (by decide) hk1 hFc hP1 hD1
  clear hP1 hD1 hK1
  clear hP hD hS hPc hDc hKc hFc hk1 hz1 ht hvm
  clear t
  revert hS1 hPn hDn; generalize H1 = H; generalize locs1 = locs; intro hS hP hD
  change va_P (dC, dI) vwCl [(h0, .inr (11, [.ref z_tubes, .ref z_grove, .ref z_season, .ref z_past, .ref z_tank, .ref z_pan, .ref z_cellar, .ref z_coop, .ref z_tape, .ref z_reader, .ref z_facts, .ref z_book, .ref z_spare, .int n_fp])), (z_pan, .inr (3, [.long w_su_3, .int w_pa_4, .int w_he_5, .int w_mi_6, .int w_wo_7]))] H at hP
  change va_D A [(h0, .inr (11, [.ref z_tubes, .ref z_grove, .ref z_season, .ref z_past, .ref z_tank, .ref z_pan, .ref z_cellar, .ref z_coop, .ref z_tape, .ref z_reader, .ref z_facts, .ref z_book, .ref z_spare, .int n_fp])), (z_pan, .inr (3, [.long w_su_3, .int w_pa_4, .int w_he_5, .int w_mi_6, .int w_wo_7]))] at hD
  refine lv_iload_n hx hb dX11_dump_15 rfl (lv_at hl 0 rfl) ?_
  refine W.widen (k := 0) (n := 0) (Nat.le_of_ble_eq_true rfl) (Nat.le_of_ble_eq_true rfl) ?_
  have hP9 := hP.sub (ws' := [(h0, .inr (11, [.ref z_tubes, .ref z_grove, .ref z_season, .ref z_past, .ref z_tank, .ref z_pan, .ref z_cellar, .ref z_coop, .ref z_tape, .ref z_reader, .ref z_facts, .ref z_book, .ref z_spare, .int n_fp])), (z_pan, .inr (3, [.long w_su_3, .int w_pa_4, .int w_he_5, .int w_mi_6, .int w_wo_7]))]) [0, 1] rfl
  have hD9 := hD.sub (ws' := [(h0, .inr (11, [.ref z_tubes, .ref z_grove, .ref z_season, .ref z_past, .ref z_tank, .ref z_pan, .ref z_cellar, .ref z_coop, .ref z_tape, .ref z_reader, .ref z_facts, .ref z_book, .ref z_spare, .int n_fp])), (z_pan, .inr (3, [.long w_su_3, .int w_pa_4, .int w_he_5, .int w_mi_6, .int w_wo_7]))]) [0, 1] (by decide) rfl
  have hK9 := hK.sub (tys' := []) [] rfl
  exact W.iret (v := n_pa) hx hb hr (fun t ht hW => ⟨⟨n_pa, (), rfl, (lg_X11_dump_0 ), ⟨w_su_3, w_pa_4, w_he_5, w_mi_6, w_wo_7, by rw [ht]; exact hP9, va_K.moved hW.alike hK9, hD9⟩⟩, hS.F ht⟩) hS.2.2 dX11_dump_16

theorem lg_X11_fault_0  : True := by
  trivial
set_option maxHeartbeats 4000000 in
set_option maxRecDepth 100000 in
theorem kX11_fault (l : Launch) (dC : Nat → ClassId) (dI : Nat → Nat → Nat) (sz : Nat) (h0 : Nat) (z_tubes : Nat) (z_grove : Nat) (z_season : Nat) (z_past : Nat) (z_tank : Nat) (z_pan : Nat) (z_cellar : Nat) (z_coop : Nat) (z_tape : Nat) (z_reader : Nat) (z_facts : Nat) (z_book : Nat) (z_spare : Nat) (n_fp : Int32) : Met l yX11_fault (Cond.code yX11_fault cX11_fault 1 (some .int) :: bg) ({ frames := 0, cells := 0, slots := 0, locals := 0 }) (pcW dC dI [.ref h0] sz [(h0, .inr (11, [.ref z_tubes, .ref z_grove, .ref z_season, .ref z_past, .ref z_tank, .ref z_pan, .ref z_cellar, .ref z_coop, .ref z_tape, .ref z_reader, .ref z_facts, .ref z_book, .ref z_spare, .int n_fp]))] []) (va_Qi (fun (r : Int32) (u : Unit) => True) (fun (u : Unit) (t : State) => va_P (dC, dI) vwCl [(h0, .inr (11, [.ref z_tubes, .ref z_grove, .ref z_season, .ref z_past, .ref z_tank, .ref z_pan, .ref z_cellar, .ref z_coop, .ref z_tape, .ref z_reader, .ref z_facts, .ref z_book, .ref z_spare, .int n_fp]))] t.heap ∧ va_K (dC, dI) vwCl [] t ∧ va_D (va_A [(h0, .inr (11, [.ref z_tubes, .ref z_grove, .ref z_season, .ref z_past, .ref z_tank, .ref z_pan, .ref z_cellar, .ref z_coop, .ref z_tape, .ref z_reader, .ref z_facts, .ref z_book, .ref z_spare, .int n_fp]))] sz) [(h0, .inr (11, [.ref z_tubes, .ref z_grove, .ref z_season, .ref z_past, .ref z_tank, .ref z_pan, .ref z_cellar, .ref z_coop, .ref z_tape, .ref z_reader, .ref z_facts, .ref z_book, .ref z_spare, .int n_fp]))]) (va_A [(h0, .inr (11, [.ref z_tubes, .ref z_grove, .ref z_season, .ref z_past, .ref z_tank, .ref z_pan, .ref z_cellar, .ref z_coop, .ref z_tape, .ref z_reader, .ref z_facts, .ref z_book, .ref z_spare, .int n_fp]))] sz)) 0 0 (va_A [(h0, .inr (11, [.ref z_tubes, .ref z_grove, .ref z_season, .ref z_past, .ref z_tank, .ref z_pan, .ref z_cellar, .ref z_coop, .ref z_tape, .ref z_reader, .ref z_facts, .ref z_book, .ref z_spare, .int n_fp]))] sz) := by
  refine Met.ofW (cc := cX11_fault) (maxL := 1) (ret := (some .int)) pnX11 rfl ?_
  intro p e s m args below meth c s₁ B hml hv
  obtain ⟨rfl, hsz, hP, hK, hD0, hN⟩ := hv
  have hx := B.exec
  have hb := B.bytes
  have hr := B.returns
  have htb : ∀ w ∈ bg, w.before [.ref h0].toArray s = true := fun w h => atoms_spec (ws := Cond.code yX11_fault cX11_fault 1 (some .int) :: bg) B.pre w (List.mem_cons_of_mem _ h)
  have hown : s.vm.findClass RX11 = some m.cls := findClass_of_methodNamed B.named
  have hlocks := B.notSynchronized
  subst hsz
  have hD := hD0.self (sz := s.heap.size)
  generalize hAe : va_A [(h0, .inr (11, [.ref z_tubes, .ref z_grove, .ref z_season, .ref z_past, .ref z_tank, .ref z_pan, .ref z_cellar, .ref z_coop, .ref z_tape, .ref z_reader, .ref z_facts, .ref z_book, .ref z_spare, .int n_fp]))] s.heap.size = A at hD ⊢
  have hA : ∀ q : Nat, s.heap.size ≤ q → A q := fun q h => by rw [← hAe]; exact Or.inr h
  have hS : va_S A s.heap s.heap [] := va_S.rf
  have hl := lv_entry ([.ref h0]) (n := 1) (Nat.le_of_ble_eq_true rfl)
  rw [lg_entry_eq]
  generalize (lg_sl ([.ref h0]) ++ List.replicate (1 - (lg_sl ([.ref h0])).length) Slot.unset).toArray = ls at hl ⊢
  change lv_has ls 1 [(0, .ref h0)] at hl
  clear hD0 hAe
  refine go0 (wsP := fun H => va_P (dC, dI) vwCl [(h0, .inr (11, [.ref z_tubes, .ref z_grove, .ref z_season, .ref z_past, .ref z_tank, .ref z_pan, .ref z_cellar, .ref z_coop, .ref z_tape, .ref z_reader, .ref z_facts, .ref z_book, .ref z_spare, .int n_fp]))] H) hP hS ?_
  clear hP hS; intro H locs hP hS
  change va_P (dC, dI) vwCl [(h0, .inr (11, [.ref z_tubes, .ref z_grove, .ref z_season, .ref z_past, .ref z_tank, .ref z_pan, .ref z_cellar, .ref z_coop, .ref z_tape, .ref z_reader, .ref z_facts, .ref z_book, .ref z_spare, .int n_fp]))] H at hP
  refine lv_aload_n hx hb dX11_fault_0 rfl (lv_at hl 0 rfl) ?_
  refine va_get (D := (dC, dI)) (ci := 11) (v := .int n_fp) (C := RX11) (T := TX11) (N := 14) hx hb htb iX11 hown hK hP 0 rfl rfl 13 (Nat.le_of_ble_eq_true rfl) (htb _ m_315) (fun _ h9 => h9) rfl dX11_fault_1 ?_
  refine W.widen (k := 0) (n := 0) (Nat.le_of_ble_eq_true rfl) (Nat.le_of_ble_eq_true rfl) ?_
  have hP9 := hP.sub (ws' := [(h0, .inr (11, [.ref z_tubes, .ref z_grove, .ref z_season, .ref z_past, .ref z_tank, .ref z_pan, .ref z_cellar, .ref z_coop, .ref z_tape, .ref z_reader, .ref z_facts, .ref z_book, .ref z_spare, .int n_fp]))]) [0] rfl
  have hD9 := hD.sub (ws' := [(h0, .inr (11, [.ref z_tubes, .ref z_grove, .ref z_season, .ref z_past, .ref z_tank, .ref z_pan, .ref z_cellar, .ref z_coop, .ref z_tape, .ref z_reader, .ref z_facts, .ref z_book, .ref z_spare, .int n_fp]))]) [0] (by decide) rfl
  have hK9 := hK.sub (tys' := []) [] rfl
  exact W.iret (v := n_fp) hx hb hr (fun t ht hW => ⟨⟨n_fp, (), rfl, (lg_X11_fault_0 ), ⟨by rw [ht]; exact hP9, va_K.moved hW.alike hK9, hD9⟩⟩, hS.F ht⟩) hS.2.2 dX11_fault_4
