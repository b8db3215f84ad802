theorem lg_X6_take_0 (n_ta : Int32) (n_to : Int32) (n_tl : Int32) (v1 : Int32) (r_1 : Int32) (yq : 0 ≤ n_ta.toInt ∧ n_ta.toInt ≤ 600 ∧ 0 ≤ n_to.toInt ∧ n_to.toInt ≤ 600 ∧ 0 ≤ n_tl.toInt ∧ n_tl.toInt ≤ 600) (h_2 : True) (t_4 : r_1.toInt = v1.toInt) : True := by
  have := rg_rng n_ta; have := rg_rng n_to; have := rg_rng n_tl; have := rg_rng v1; have := rg_rng r_1; trivial
theorem lg_X6_take_1 (n_ta : Int32) (n_to : Int32) (n_tl : Int32) (v1 : Int32) (r_1 : Int32) (yq : 0 ≤ n_ta.toInt ∧ n_ta.toInt ≤ 600 ∧ 0 ≤ n_to.toInt ∧ n_to.toInt ≤ 600 ∧ 0 ≤ n_tl.toInt ∧ n_tl.toInt ≤ 600) (h_2 : True) (t_4 : ¬ r_1.toInt = v1.toInt) : True := by
  have := rg_rng n_ta; have := rg_rng n_to; have := rg_rng n_tl; have := rg_rng v1; have := rg_rng r_1; trivial
set_option maxHeartbeats 4000000 in
set_option maxRecDepth 100000 in
theorem kX6_take (l : Launch) (dC : Nat → ClassId) (dI : Nat → Nat → Nat) (sz : Nat) (h0 : Nat) (d_tape : Nat) (n_pr : Int32) (n_nu : Int32) (p_bytes : Nat) (p_ts : Nat) (p_tc : Nat) (n_ta : Int32) (n_to : Int32) (n_tl : Int32) (k_tc : ClassId) (f_tc : Nat → Int32) (v1 : Int32) (yq : 0 ≤ n_ta.toInt ∧ n_ta.toInt ≤ 600 ∧ 0 ≤ n_to.toInt ∧ n_to.toInt ≤ 600 ∧ 0 ≤ n_tl.toInt ∧ n_tl.toInt ≤ 600) : Met l yX6_take (Cond.code yX6_take cX6_take 2 (some .boolean) :: bg) ({ frames := 1, cells := 0, slots := 0, locals := 21 }) (pcW dC dI [.ref h0, .int v1] sz [(h0, .inr (6, [.ref d_tape, .int n_pr, .int n_nu])), (d_tape, .inr (9, [.ref p_bytes, .ref p_ts, .ref p_tc, .int n_ta, .int n_to, .int n_tl])), (p_tc, .inl (k_tc, 600, .inl f_tc))] [(k_tc, .int)]) (va_Qi (fun (r : Int32) (u : Unit) => (r = 1 ∧ True) ∨ (r = 0 ∧ True)) (fun (u : Unit) (t : State) => ∃ (w_pr : Int32), va_P (dC, dI) vwCl [(h0, .inr (6, [.ref d_tape, .int w_pr, .int n_nu])), (d_tape, .inr (9, [.ref p_bytes, .ref p_ts, .ref p_tc, .int n_ta, .int n_to, .int n_tl])), (p_tc, .inl (k_tc, 600, .inl f_tc))] t.heap ∧ va_K (dC, dI) vwCl [] t ∧ va_D (va_A [(h0, .inr (6, [.ref d_tape, .int n_pr, .int n_nu])), (d_tape, .inr (9, [.ref p_bytes, .ref p_ts, .ref p_tc, .int n_ta, .int n_to, .int n_tl])), (p_tc, .inl (k_tc, 600, .inl f_tc))] sz) [(h0, .inr (6, [.ref d_tape, .int w_pr, .int n_nu])), (d_tape, .inr (9, [.ref p_bytes, .ref p_ts, .ref p_tc, .int n_ta, .int n_to, .int n_tl])), (p_tc, .inl (k_tc, 600, .inl f_tc))]) (va_A [(h0, .inr (6, [.ref d_tape, .int n_pr, .int n_nu])), (d_tape, .inr (9, [.ref p_bytes, .ref p_ts, .ref p_tc, .int n_ta, .int n_to, .int n_tl])), (p_tc, .inl (k_tc, 600, .inl f_tc))] sz)) 0 0 (va_A [(h0, .inr (6, [.ref d_tape, .int n_pr, .int n_nu])), (d_tape, .inr (9, [.ref p_bytes, .ref p_ts, .ref p_tc, .int n_ta, .int n_to, .int n_tl])), (p_tc, .inl (k_tc, 600, .inl f_tc))] sz) := by
  refine Met.ofW (cc := cX6_take) (maxL := 2) (ret := (some .boolean)) pnX6 rfl ?_
  intro p e s m args below meth c s₁ B hml hv
  obtain ⟨rfl, hsz, hP, hK, hD0, hN⟩ := hv
  have hx := B.exec
  have hb := B.bytes
  have hr := B.returns
  have htb : ∀ w ∈ bg, w.before [.ref h0, .int v1].toArray s = true := fun w h => atoms_spec (ws := Cond.code yX6_take cX6_take 2 (some .boolean) :: bg) B.pre w (List.mem_cons_of_mem _ h)
  have hown : s.vm.findClass RX6 = some m.cls := findClass_of_methodNamed B.named
  have hlocks := B.notSynchronized
  subst hsz
  have hD := hD0.self (sz := s.heap.size)
  generalize hAe : va_A [(h0, .inr (6, [.ref d_tape, .int n_pr, .int n_nu])), (d_tape, .inr (9, [.ref p_bytes, .ref p_ts, .ref p_tc, .int n_ta, .int n_to, .int n_tl])), (p_tc, .inl (k_tc, 600, .inl f_tc))] s.heap.size = A at hD ⊢
  have hA : ∀ q : Nat, s.heap.size ≤ q → A q := fun q h => by rw [← hAe]; exact Or.inr h
  have hS : va_S A s.heap s.heap [] := va_S.rf
  have hl := lv_entry ([.ref h0, .int v1]) (n := 2) (Nat.le_of_ble_eq_true rfl)
  rw [lg_entry_eq]
  generalize (lg_sl ([.ref h0, .int v1]) ++ List.replicate (2 - (lg_sl ([.ref h0, .int v1])).length) Slot.unset).toArray = ls at hl ⊢
  change lv_has ls 2 [(0, .ref h0), (1, .int v1)] at hl
  clear hD0 hAe
  refine go0 (wsP := fun H => va_P (dC, dI) vwCl [(h0, .inr (6, [.ref d_tape, .int n_pr, .int n_nu])), (d_tape, .inr (9, [.ref p_bytes, .ref p_ts, .ref p_tc, .int n_ta, .int n_to, .int n_tl])), (p_tc, .inl (k_tc, 600, .inl f_tc))] H) hP hS ?_
  clear hP hS; intro H locs hP hS
  change va_P (dC, dI) vwCl [(h0, .inr (6, [.ref d_tape, .int n_pr, .int n_nu])), (d_tape, .inr (9, [.ref p_bytes, .ref p_ts, .ref p_tc, .int n_ta, .int n_to, .int n_tl])), (p_tc, .inl (k_tc, 600, .inl f_tc))] H at hP
  refine lv_aload_n hx hb dX6_take_0 rfl (lv_at hl 0 rfl) ?_
  refine va_get (D := (dC, dI)) (ci := 6) (v := .ref d_tape) (C := RX6) (T := TX6) (N := 3) hx hb htb iX6 hown hK hP 0 rfl rfl 0 (Nat.le_of_ble_eq_true rfl) (htb _ m_263) (fun _ h9 => h9) rfl dX6_take_1 ?_
  refine lv_aload_n hx hb dX6_take_4 rfl (lv_at hl 0 rfl) ?_
  refine va_get (D := (dC, dI)) (ci := 6) (v := .int n_pr) (C := RX6) (T := TX6) (N := 3) hx hb htb iX6 hown hK hP 0 rfl rfl 1 (Nat.le_of_ble_eq_true rfl) (htb _ m_264) (fun _ h9 => h9) rfl dX6_take_5 ?_
  have hPc := hP.sub (ws' := [(d_tape, .inr (9, [.ref p_bytes, .ref p_ts, .ref p_tc, .int n_ta, .int n_to, .int n_tl])), (p_tc, .inl (k_tc, 600, .inl f_tc))]) [1, 2] rfl
  have hDc := hD.sub (ws' := [(d_tape, .inr (9, [.ref p_bytes, .ref p_ts, .ref p_tc, .int n_ta, .int n_to, .int n_tl])), (p_tc, .inl (k_tc, 600, .inl f_tc))]) [1, 2] (by decide) rfl
  have hKc := hK.sub (tys' := [(k_tc, .int)]) [0] rfl
  have hFc := va_free (wc := [(d_tape, .inr (9, [.ref p_bytes, .ref p_ts, .ref p_tc, .int n_ta, .int n_to, .int n_tl])), (p_tc, .inl (k_tc, 600, .inl f_tc))]) hD hS hA [1, 2] rfl
  refine va_calli (va_runV (C := RX9) (As := [.int n_pr]) (rest := []) ⟨hx, hb, hml, hown, htb⟩ (kX9_codeOf l dC dI H.size d_tape p_bytes p_ts p_tc n_ta n_to n_tl k_tc f_tc n_pr yq) ⟨callB_of 1 htb (gd_c m_926) rfl rfl rfl (htb _ m_10) (htb _ m_923) hdX9_codeOf ⟨(Nat.le_of_ble_eq_true rfl), (Nat.le_of_ble_eq_true rfl)⟩, htb _ m_924, htb _ m_925⟩ ⟨pcW_blind, va_recv hKc hPc (ci := 9) (q0 := 0) rfl rfl, pcW_at hPc hKc hDc hN⟩ rfl rfl hl.1 rfl (lv_room (Nat.le_of_ble_eq_true rfl)) dX6_take_8 ⟨(Nat.le_of_ble_eq_true rfl), (Nat.le_of_ble_eq_true rfl)⟩) hS (fun q _ h => hFc q h) hFc (fun r_1 u t H1 locs1 ht hvm h_2 hB hz1 hk1 hS1 => ?_)
  obtain ⟨hP1, hK1, hD1⟩ := hB
  rw [ht] at hP1
  obtain ⟨hPn, hDn⟩ := va_join (wr := [(h0, .inr (6, [.ref d_tape, .int n_pr, .int n_nu]))]) (w1 := [(d_tape, .inr (9, [.ref p_bytes, .ref p_ts, .ref p_tc, .int n_ta, .int n_to, .int n_tl])), (p_tc, .inl (k_tc, 600, .inl f_tc))]) hP hD [1, 2] [0] rfl rfl (by decide) (by decide) hk1 hFc hP1 hD1
  clear hP1 hD1 hK1
  clear hP hD hS hPc hDc hKc hFc hk1 hz1 ht hvm
  clear t
  revert hS1 hPn hDn; generalize H1 = H; generalize locs1 = locs; intro hS hP hD
  change va_P (dC, dI) vwCl [(h0, .inr (6, [.ref d_tape, .int n_pr, .int n_nu])), (d_tape, .inr (9, [.ref p_bytes, .ref p_ts, .ref p_tc, .int n_ta, .int n_to, .int n_tl])), (p_tc, .inl (k_tc, 600, .inl f_tc))] H at hP
  change va_D A [(h0, .inr (6, [.ref d_tape, .int n_pr, .int n_nu])), (d_tape, .inr (9, [.ref p_bytes, .ref p_ts, .ref p_tc, .int n_ta, .int n_to, .int n_tl])), (p_tc, .inl (k_tc, 600, .inl f_tc))] at hD
  refine lv_iload_n hx hb dX6_take_11 rfl (lv_at hl 1 rfl) ?_
  refine lv_icmp_eq (tgt := 17) hx hb dX6_take_12 (by decide) (fun c_3 => ?_) (fun c_3 => ?_)
  · have t_4 : r_1.toInt = v1.toInt := i_eq rfl rfl c_3
    refine lv_aload_n hx hb dX6_take_17 rfl (lv_at hl 0 rfl) ?_
    refine lv_dup hx hb dX6_take_18 rfl ?_
    refine va_get (D := (dC, dI)) (ci := 6) (v := .int n_pr) (C := RX6) (T := TX6) (N := 3) hx hb htb iX6 hown hK hP 0 rfl rfl 1 (Nat.le_of_ble_eq_true rfl) (htb _ m_264) (fun _ h9 => h9) rfl dX6_take_19 ?_
    refine lv_iconst (v := 1) hx hb dX6_take_22 (by decide) ?_
    refine lv_iadd hx hb dX6_take_23 ?_
    refine lv_topi (fun x_5 ex_6 => ?_)
    refine va_put (D := (dC, dI)) (ci := 6) (v := .int x_5) (C := RX6) (T := TX6) (N := 3) hx hb htb iX6 tyX6 tyX6_ok nmX6 hown hK hP hD hS 0 rfl rfl 1 (Nat.le_of_ble_eq_true rfl) (htb _ m_264) (fun _ h9 => h9) rfl (tyX6_ok 1 (Nat.le_of_ble_eq_true rfl)) rfl rfl (Nat.le_of_ble_eq_true rfl) dX6_take_24 ?_
    clear hP hD hS; intro H locs hP hD hS
    change va_P (dC, dI) vwCl [(h0, .inr (6, [.ref d_tape, .int x_5, .int n_nu])), (d_tape, .inr (9, [.ref p_bytes, .ref p_ts, .ref p_tc, .int n_ta, .int n_to, .int n_tl])), (p_tc, .inl (k_tc, 600, .inl f_tc))] H at hP
    change va_D A [(h0, .inr (6, [.ref d_tape, .int x_5, .int n_nu])), (d_tape, .inr (9, [.ref p_bytes, .ref p_ts, .ref p_tc, .int n_ta, .int n_to, .int n_tl])), (p_tc, .inl (k_tc, 600, .inl f_tc))] at hD
    refine lv_iconst (v := 1) hx hb dX6_take_27 (by decide) ?_
    refine W.widen (k := 0) (n := 0) (Nat.le_of_ble_eq_true rfl) (Nat.le_of_ble_eq_true rfl) ?_
    have hP9 := hP.sub (ws' := [(h0, .inr (6, [.ref d_tape, .int x_5, .int n_nu])), (d_tape, .inr (9, [.ref p_bytes, .ref p_ts, .ref p_tc, .int n_ta, .int n_to, .int n_tl])), (p_tc, .inl (k_tc, 600, .inl f_tc))]) [0, 1, 2] rfl
    have hD9 := hD.sub (ws' := [(h0, .inr (6, [.ref d_tape, .int x_5, .int n_nu])), (d_tape, .inr (9, [.ref p_bytes, .ref p_ts, .ref p_tc, .int n_ta, .int n_to, .int n_tl])), (p_tc, .inl (k_tc, 600, .inl f_tc))]) [0, 1, 2] (by decide) rfl
    have hK9 := hK.sub (tys' := []) [] rfl
    exact W.zret (ty := .boolean) (v := 1) hx hb hr rfl (fun t ht hW => ⟨⟨1, (), rfl, (Or.inl ⟨rfl, (lg_X6_take_0 n_ta n_to n_tl v1 r_1 yq h_2 t_4)⟩), ⟨x_5, by rw [ht]; exact hP9, va_K.moved hW.alike hK9, hD9⟩⟩, hS.F ht⟩) hS.2.2 dX6_take_28
  · have t_4 : ¬ r_1.toInt = v1.toInt := i_ne rfl rfl c_3
    refine lv_iconst (v := 0) hx hb dX6_take_15 (by decide) ?_
    refine W.widen (k := 0) (n := 0) (Nat.le_of_ble_eq_true rfl) (Nat.le_of_ble_eq_true rfl) ?_
    have hP9 := hP.sub (ws' := [(h0, .inr (6, [.ref d_tape, .int n_pr, .int n_nu])), (d_tape, .inr (9, [.ref p_bytes, .ref p_ts, .ref p_tc, .int n_ta, .int n_to, .int n_tl])), (p_tc, .inl (k_tc, 600, .inl f_tc))]) [0, 1, 2] rfl
    have hD9 := hD.sub (ws' := [(h0, .inr (6, [.ref d_tape, .int n_pr, .int n_nu])), (d_tape, .inr (9, [.ref p_bytes, .ref p_ts, .ref p_tc, .int n_ta, .int n_to, .int n_tl])), (p_tc, .inl (k_tc, 600, .inl f_tc))]) [0, 1, 2] (by decide) rfl
    have hK9 := hK.sub (tys' := []) [] rfl
    exact W.zret (ty := .boolean) (v := 0) hx hb hr rfl (fun t ht hW => ⟨⟨0, (), rfl, (Or.inr (⟨rfl, (lg_X6_take_1 n_ta n_to n_tl v1 r_1 yq h_2 t_4)⟩)), ⟨n_pr, by rw [ht]; exact hP9, va_K.moved hW.alike hK9, hD9⟩⟩, hS.F ht⟩) hS.2.2 dX6_take_16

theorem lg_X6_takeNumber_0 (n_ta : Int32) (n_to : Int32) (n_tl : Int32) (v1 : Int32) (x_3 : Int32) (yq : 0 ≤ n_ta.toInt ∧ n_ta.toInt ≤ 600 ∧ 0 ≤ n_to.toInt ∧ n_to.toInt ≤ 600 ∧ 0 ≤ n_tl.toInt ∧ n_tl.toInt ≤ 600) (h_2 : True) (h_7 : (0 : Int) ≤ x_3.toInt ∧ x_3.toInt ≤ v1.toInt) : True := by
  have := rg_rng n_ta; have := rg_rng n_to; have := rg_rng n_tl; have := rg_rng v1; have := rg_rng x_3; trivial
theorem lg_X6_takeNumber_1 (n_ta : Int32) (n_to : Int32) (n_tl : Int32) (v1 : Int32) (x_3 : Int32) (yq : 0 ≤ n_ta.toInt ∧ n_ta.toInt ≤ 600 ∧ 0 ≤ n_to.toInt ∧ n_to.toInt ≤ 600 ∧ 0 ≤ n_tl.toInt ∧ n_tl.toInt ≤ 600) (h_2 : True) (h_7 : ¬ ((0 : Int) ≤ x_3.toInt ∧ x_3.toInt ≤ v1.toInt)) : True := by
  have := rg_rng n_ta; have := rg_rng n_to; have := rg_rng n_tl; have := rg_rng v1; have := rg_rng x_3; trivial
set_option maxHeartbeats 4000000 in
set_option maxRecDepth 100000 in
theorem kX6_takeNumber (l : Launch) (dC : Nat → ClassId) (dI : Nat → Nat → Nat) (sz : Nat) (h0 : Nat) (d_tape : Nat) (n_pr : Int32) (n_nu : Int32) (p_bytes : Nat) (p_ts : Nat) (p_tc : Nat) (n_ta : Int32) (n_to : Int32) (n_tl : Int32) (k_tc : ClassId) (f_tc : Nat → Int32) (v1 : Int32) (yq : 0 ≤ n_ta.toInt ∧ n_ta.toInt ≤ 600 ∧ 0 ≤ n_to.toInt ∧ n_to.toInt ≤ 600 ∧ 0 ≤ n_tl.toInt ∧ n_tl.toInt ≤ 600) : Met l yX6_takeNumber (Cond.code yX6_takeNumber cX6_takeNumber 3 (some .boolean) :: bg) ({ frames := 1, cells := 0, slots := 0, locals := 22 }) (pcW dC dI [.ref h0, .int v1] sz [(h0, .inr (6, [.ref d_tape, .int n_pr, .int n_nu])), (d_tape, .inr (9, [.ref p_bytes, .ref p_ts, .ref p_tc, .int n_ta, .int n_to, .int n_tl])), (p_tc, .inl (k_tc, 600, .inl f_tc))] [(k_tc, .int)]) (va_Qi (fun (r : Int32) (u : Unit) => (r = 1 ∧ True) ∨ (r = 0 ∧ True)) (fun (u : Unit) (t : State) => ∃ (w_pr : Int32) (w_nu : Int32), va_P (dC, dI) vwCl [(h0, .inr (6, [.ref d_tape, .int w_pr, .int w_nu])), (d_tape, .inr (9, [.ref p_bytes, .ref p_ts, .ref p_tc, .int n_ta, .int n_to, .int n_tl])), (p_tc, .inl (k_tc, 600, .inl f_tc))] t.heap ∧ va_K (dC, dI) vwCl [] t ∧ va_D (va_A [(h0, .inr (6, [.ref d_tape, .int n_pr, .int n_nu])), (d_tape, .inr (9, [.ref p_bytes, .ref p_ts, .ref p_tc, .int n_ta, .int n_to, .int n_tl])), (p_tc, .inl (k_tc, 600, .inl f_tc))] sz) [(h0, .inr (6, [.ref d_tape, .int w_pr, .int w_nu])), (d_tape, .inr (9, [.ref p_bytes, .ref p_ts, .ref p_tc, .int n_ta, .int n_to, .int n_tl])), (p_tc, .inl (k_tc, 600, .inl f_tc))]) (va_A [(h0, .inr (6, [.ref d_tape, .int n_pr, .int n_nu])), (d_tape, .inr (9, [.ref p_bytes, .ref p_ts, .ref p_tc, .int n_ta, .int n_to, .int n_tl])), (p_tc, .inl (k_tc, 600, .inl f_tc))] sz)) 0 0 (va_A [(h0, .inr (6, [.ref d_tape, .int n_pr, .int n_nu])), (d_tape, .inr (9, [.ref p_bytes, .ref p_ts, .ref p_tc, .int n_ta, .int n_to, .int n_tl])), (p_tc, .inl (k_tc, 600, .inl f_tc))] sz) := by
  refine Met.ofW (cc := cX6_takeNumber) (maxL := 3) (ret := (some .boolean)) pnX6 rfl ?_
  intro p e s m args below meth c s₁ B hml hv
  obtain ⟨rfl, hsz, hP, hK, hD0, hN⟩ := hv
  have hx := B.exec
  have hb := B.bytes
  have hr := B.returns
  have htb : ∀ w ∈ bg, w.before [.ref h0, .int v1].toArray s = true := fun w h => atoms_spec (ws := Cond.code yX6_takeNumber cX6_takeNumber 3 (some .boolean) :: bg) B.pre w (List.mem_cons_of_mem _ h)
  have hown : s.vm.findClass RX6 = some m.cls := findClass_of_methodNamed B.named
  have hlocks := B.notSynchronized
  subst hsz
  have hD := hD0.self (sz := s.heap.size)
  generalize hAe : va_A [(h0, .inr (6, [.ref d_tape, .int n_pr, .int n_nu])), (d_tape, .inr (9, [.ref p_bytes, .ref p_ts, .ref p_tc, .int n_ta, .int n_to, .int n_tl])), (p_tc, .inl (k_tc, 600, .inl f_tc))] s.heap.size = A at hD ⊢
  have hA : ∀ q : Nat, s.heap.size ≤ q → A q := fun q h => by rw [← hAe]; exact Or.inr h
  have hS : va_S A s.heap s.heap [] := va_S.rf
  have hl := lv_entry ([.ref h0, .int v1]) (n := 3) (Nat.le_of_ble_eq_true rfl)
  rw [lg_entry_eq]
  generalize (lg_sl ([.ref h0, .int v1]) ++ List.replicate (3 - (lg_sl ([.ref h0, .int v1])).length) Slot.unset).toArray = ls at hl ⊢
  change lv_has ls 3 [(0, .ref h0), (1, .int v1)] at hl
  clear hD0 hAe
  refine go0 (wsP := fun H => va_P (dC, dI) vwCl [(h0, .inr (6, [.ref d_tape, .int n_pr, .int n_nu])), (d_tape, .inr (9, [.ref p_bytes, .ref p_ts, .ref p_tc, .int n_ta, .int n_to, .int n_tl])), (p_tc, .inl (k_tc, 600, .inl f_tc))] H) hP hS ?_
  clear hP hS; intro H locs hP hS
  change va_P (dC, dI) vwCl [(h0, .inr (6, [.ref d_tape, .int n_pr, .int n_nu])), (d_tape, .inr (9, [.ref p_bytes, .ref p_ts, .ref p_tc, .int n_ta, .int n_to, .int n_tl])), (p_tc, .inl (k_tc, 600, .inl f_tc))] H at hP
  refine lv_aload_n hx hb dX6_takeNumber_0 rfl (lv_at hl 0 rfl) ?_
  refine va_get (D := (dC, dI)) (ci := 6) (v := .ref d_tape) (C := RX6) (T := TX6) (N := 3) hx hb htb iX6 hown hK hP 0 rfl rfl 0 (Nat.le_of_ble_eq_true rfl) (htb _ m_263) (fun _ h9 => h9) rfl dX6_takeNumber_1 ?_
  refine lv_aload_n hx hb dX6_takeNumber_4 rfl (lv_at hl 0 rfl) ?_
  refine va_get (D := (dC, dI)) (ci := 6) (v := .int n_pr) (C := RX6) (T := TX6) (N := 3) hx hb htb iX6 hown hK hP 0 rfl rfl 1 (Nat.le_of_ble_eq_true rfl) (htb _ m_264) (fun _ h9 => h9) rfl dX6_takeNumber_5 ?_
  have hPc := hP.sub (ws' := [(d_tape, .inr (9, [.ref p_bytes, .ref p_ts, .ref p_tc, .int n_ta, .int n_to, .int n_tl])), (p_tc, .inl (k_tc, 600, .inl f_tc))]) [1, 2] rfl
  have hDc := hD.sub (ws' := [(d_tape, .inr (9, [.ref p_bytes, .ref p_ts, .ref p_tc, .int n_ta, .int n_to, .int n_tl])), (p_tc, .inl (k_tc, 600, .inl f_tc))]) [1, 2] (by decide) rfl
  have hKc := hK.sub (tys' := [(k_tc, .int)]) [0] rfl
  have hFc := va_free (wc := [(d_tape, .inr (9, [.ref p_bytes, .ref p_ts, .ref p_tc, .int n_ta, .int n_to, .int n_tl])), (p_tc, .inl (k_tc, 600, .inl f_tc))]) hD hS hA [1, 2] rfl
  refine va_calli (va_runV (C := RX9) (As := [.int n_pr]) (rest := []) ⟨hx, hb, hml, hown, htb⟩ (kX9_codeOf l dC dI H.size d_tape p_bytes p_ts p_tc n_ta n_to n_tl k_tc f_tc n_pr yq) ⟨callB_of 1 htb (gd_c m_926) rfl rfl rfl (htb _ m_10) (htb _ m_923) hdX9_codeOf ⟨(Nat.le_of_ble_eq_true rfl), (Nat.le_of_ble_eq_true rfl)⟩, htb _ m_924, htb _ m_925⟩ ⟨pcW_blind, va_recv hKc hPc (ci := 9) (q0 := 0) rfl rfl, pcW_at hPc hKc hDc hN⟩ rfl rfl hl.1 rfl (lv_room (Nat.le_of_ble_eq_true rfl)) dX6_takeNumber_8 ⟨(Nat.le_of_ble_eq_true rfl), (Nat.le_of_ble_eq_true rfl)⟩) hS (fun q _ h => hFc q h) hFc (fun r_1 u t H1 locs1 ht hvm h_2 hB hz1 hk1 hS1 => ?_)
  obtain ⟨hP1, hK1, hD1⟩ := hB
  rw [ht] at hP1
  obtain ⟨hPn, hDn⟩ := va_join (wr := [(h0, .inr (6, [.ref d_tape, .int n_pr, .int n_nu]))]) (w1 := [(d_tape, .inr (9, [.ref p_bytes, .ref p_ts, .ref p_tc, .int n_ta, .int n_to, .int n_tl])), (p_tc, .inl (k_tc, 600, .inl f_tc))]) hP hD [1, 2] [0] rfl rfl (by decide) (by decide) hk1 hFc hP1 hD1
  clear hP1 hD1 hK1
  clear hP hD hS hPc hDc hKc hFc hk1 hz1 ht hvm
  clear t
  revert hS1 hPn hDn; generalize H1 = H; generalize locs1 = locs; intro hS hP hD
  change va_P (dC, dI) vwCl [(h0, .inr (6, [.ref d_tape, .int n_pr, .int n_nu])), (d_tape, .inr (9, [.ref p_bytes, .ref p_ts, .ref p_tc, .int n_ta, .int n_to, .int n_tl])), (p_tc, .inl (k_tc, 600, .inl f_tc))] H at hP
  change va_D A [(h0, .inr (6, [.ref d_tape, .int n_pr, .int n_nu])), (d_tape, .inr (9, [.ref p_bytes, .ref p_ts, .ref p_tc, .int n_ta, .int n_to, .int n_tl])), (p_tc, .inl (k_tc, 600, .inl f_tc))] at hD
  refine lv_sipush (v := 1000) hx hb dX6_takeNumber_11 (by decide) ?_
  refine lv_isub hx hb dX6_takeNumber_14 ?_
  refine lv_topi (fun x_3 ex_4 => ?_)
  refine lv_istore_n (lv' := [(2, .int x_3), (0, .ref h0), (1, .int v1)]) hx hb dX6_takeNumber_15 rfl hl (by decide) rfl ?_
  clear hl; intro ls hl
  refine lv_iload_n hx hb dX6_takeNumber_16 rfl (lv_at hl 0 rfl) ?_
  refine lv_iconst (v := 0) hx hb dX6_takeNumber_17 (by decide) ?_
  refine lv_iload_n hx hb dX6_takeNumber_18 rfl (lv_at hl 2 rfl) ?_
  have hPc := hP.sub (ws' := []) [] rfl
  have hDc := hD.sub (ws' := []) [] (by decide) rfl
  have hKc := hK.sub (tys' := []) [] rfl
  have hFc := va_free (wc := []) hD hS hA [] rfl
  refine va_calli (va_runSN (As := [.int x_3, .int 0, .int v1]) (rest := []) ⟨hx, hb, hml, hown, htb⟩ (kX11_isWithin l dC dI H.size x_3 0 v1 ) ⟨va_cnB 3 htb (gd_c m_355) rfl rfl rfl (hN.1 _ nm_30) (htb _ m_1) hdX11_isWithin ⟨(Nat.le_of_ble_eq_true rfl), (Nat.le_of_ble_eq_true rfl)⟩, htb _ m_354, trivial⟩ ⟨pcW_blind, pcW_at hPc hKc hDc hN⟩ rfl rfl hl.1 rfl (lv_room (Nat.le_of_ble_eq_true rfl)) dX6_takeNumber_19 ⟨(Nat.le_of_ble_eq_true rfl), (Nat.le_of_ble_eq_true rfl)⟩) hS (fun q _ h => hFc q h) hFc (fun r_6 u t H1 locs1 ht hvm h_7 hB hz1 hk1 hS1 => ?_)
  obtain ⟨hP1, hK1, hD1⟩ := hB
  rw [ht] at hP1
  obtain ⟨hPn, hDn⟩ := va_join (wr := [(h0, .inr (6, [.ref d_tape, .int n_pr, .int n_nu])), (d_tape, .inr (9, [.ref p_bytes, .ref p_ts, .ref p_tc, .int n_ta, .int n_to, .int n_tl])), (p_tc, .inl (k_tc, 600, .inl f_tc))]) (w1 := []) hP hD [] [0, 1, 2] rfl rfl (by decide) (by decide) hk1 hFc hP1 hD1
  clear hP1 hD1 hK1
  clear hP hD hS hPc hDc hKc hFc hk1 hz1 ht hvm
  clear t
  revert hS1 hPn hDn; generalize H1 = H; generalize locs1 = locs; intro hS hP hD
  change va_P (dC, dI) vwCl [(h0, .inr (6, [.ref d_tape, .int n_pr, .int n_nu])), (d_tape, .inr (9, [.ref p_bytes, .ref p_ts, .ref p_tc, .int n_ta, .int n_to, .int n_tl])), (p_tc, .inl (k_tc, 600, .inl f_tc))] H at hP
  change va_D A [(h0, .inr (6, [.ref d_tape, .int n_pr, .int n_nu])), (d_tape, .inr (9, [.ref p_bytes, .ref p_ts, .ref p_tc, .int n_ta, .int n_to, .int n_tl])), (p_tc, .inl (k_tc, 600, .inl f_tc))] at hD
  rcases h_7 with ⟨rfl, h_7⟩ | ⟨rfl, h_7⟩
  · refine lv_if_ne (tgt := 27) hx hb dX6_takeNumber_22 (by decide) ?_ (fun c_8 => absurd c_8 (by decide))
    intro _
    refine lv_aload_n hx hb dX6_takeNumber_27 rfl (lv_at hl 1 rfl) ?_
    refine lv_iload_n hx hb dX6_takeNumber_28 rfl (lv_at hl 0 rfl) ?_
    refine va_put (D := (dC, dI)) (ci := 6) (v := .int x_3) (C := RX6) (T := TX6) (N := 3) hx hb htb iX6 tyX6 tyX6_ok nmX6 hown hK hP hD hS 0 rfl rfl 2 (Nat.le_of_ble_eq_true rfl) (htb _ m_265) (fun _ h9 => h9) rfl (tyX6_ok 2 (Nat.le_of_ble_eq_true rfl)) rfl rfl (Nat.le_of_ble_eq_true rfl) dX6_takeNumber_29 ?_
    clear hP hD hS; intro H locs hP hD hS
    change va_P (dC, dI) vwCl [(h0, .inr (6, [.ref d_tape, .int n_pr, .int x_3])), (d_tape, .inr (9, [.ref p_bytes, .ref p_ts, .ref p_tc, .int n_ta, .int n_to, .int n_tl])), (p_tc, .inl (k_tc, 600, .inl f_tc))] H at hP
    change va_D A [(h0, .inr (6, [.ref d_tape, .int n_pr, .int x_3])), (d_tape, .inr (9, [.ref p_bytes, .ref p_ts, .ref p_tc, .int n_ta, .int n_to, .int n_tl])), (p_tc, .inl (k_tc, 600, .inl f_tc))] at hD
    refine lv_aload_n hx hb dX6_takeNumber_32 rfl (lv_at hl 1 rfl) ?_
    refine lv_dup hx hb dX6_takeNumber_33 rfl ?_
    refine va_get (D := (dC, dI)) (ci := 6) (v := .int n_pr) (C := RX6) (T := TX6) (N := 3) hx hb htb iX6 hown hK hP 0 rfl rfl 1 (Nat.le_of_ble_eq_true rfl) (htb _ m_264) (fun _ h9 => h9) rfl dX6_takeNumber_34 ?_
    refine lv_iconst (v := 1) hx hb dX6_takeNumber_37 (by decide) ?_
    refine lv_iadd hx hb dX6_takeNumber_38 ?_
    refine lv_topi (fun x_9 ex_10 => ?_)
    refine va_put (D := (dC, dI)) (ci := 6) (v := .int x_9) (C := RX6) (T := TX6) (N := 3) hx hb htb iX6 tyX6 tyX6_ok nmX6 hown hK hP hD hS 0 rfl rfl 1 (Nat.le_of_ble_eq_true rfl) (htb _ m_264) (fun _ h9 => h9) rfl (tyX6_ok 1 (Nat.le_of_ble_eq_true rfl)) rfl rfl (Nat.le_of_ble_eq_true rfl) dX6_takeNumber_39 ?_
    clear hP hD hS; intro H locs hP hD hS
    change va_P (dC, dI) vwCl [(h0, .inr (6, [.ref d_tape, .int x_9, .int x_3])), (d_tape, .inr (9, [.ref p_bytes, .ref p_ts, .ref p_tc, .int n_ta, .int n_to, .int n_tl])), (p_tc, .inl (k_tc, 600, .inl f_tc))] H at hP
    change va_D A [(h0, .inr (6, [.ref d_tape, .int x_9, .int x_3])), (d_tape, .inr (9, [.ref p_bytes, .ref p_ts, .ref p_tc, .int n_ta, .int n_to, .int n_tl])), (p_tc, .inl (k_tc, 600, .inl f_tc))] at hD
    refine lv_iconst (v := 1) hx hb dX6_takeNumber_42 (by decide) ?_
    refine W.widen (k := 0) (n := 0) (Nat.le_of_ble_eq_true rfl) (Nat.le_of_ble_eq_true rfl) ?_
    have hP9 := hP.sub (ws' := [(h0, .inr (6, [.ref d_tape, .int x_9, .int x_3])), (d_tape, .inr (9, [.ref p_bytes, .ref p_ts, .ref p_tc, .int n_ta, .int n_to, .int n_tl])), (p_tc, .inl (k_tc, 600, .inl f_tc))]) [0, 1, 2] rfl
    have hD9 := hD.sub (ws' := [(h0, .inr (6, [.ref d_tape, .int x_9, .int x_3])), (d_tape, .inr (9, [.ref p_bytes, .ref p_ts, .ref p_tc, .int n_ta, .int n_to, .int n_tl])), (p_tc, .inl (k_tc, 600, .inl f_tc))]) [0, 1, 2] (by decide) rfl
    have hK9 := hK.sub (tys' := []) [] rfl
    exact W.zret (ty := .boolean) (v := 1) hx hb hr rfl (fun t ht hW => ⟨⟨1, (), rfl, (Or.inl ⟨rfl, (lg_X6_takeNumber_0 n_ta n_to n_tl v1 x_3 yq h_2 h_7)⟩), ⟨x_9, x_3, by rw [ht]; exact hP9, va_K.moved hW.alike hK9, hD9⟩⟩, hS.F ht⟩) hS.2.2 dX6_takeNumber_43
  · refine lv_if_ne (tgt := 27) hx hb dX6_takeNumber_22 (by decide) (fun c_12 => absurd (by decide) c_12) ?_
    intro _
    refine lv_iconst (v := 0) hx hb dX6_takeNumber_25 (by decide) ?_
    refine W.widen (k := 0) (n := 0) (Nat.le_of_ble_eq_true rfl) (Nat.le_of_ble_eq_true rfl) ?_
    have hP9 := hP.sub (ws' := [(h0, .inr (6, [.ref d_tape, .int n_pr, .int n_nu])), (d_tape, .inr (9, [.ref p_bytes, .ref p_ts, .ref p_tc, .int n_ta, .int n_to, .int n_tl])), (p_tc, .inl (k_tc, 600, .inl f_tc))]) [0, 1, 2] rfl
    have hD9 := hD.sub (ws' := [(h0, .inr (6, [.ref d_tape, .int n_pr, .int n_nu])), (d_tape, .inr (9, [.ref p_bytes, .ref p_ts, .ref p_tc, .int n_ta, .int n_to, .int n_tl])), (p_tc, .inl (k_tc, 600, .inl f_tc))]) [0, 1, 2] (by decide) rfl
    have hK9 := hK.sub (tys' := []) [] rfl
    exact W.zret (ty := .boolean) (v := 0) hx hb hr rfl (fun t ht hW => ⟨⟨0, (), rfl, (Or.inr (⟨rfl, (lg_X6_takeNumber_1 n_ta n_to n_tl v1 x_3 yq h_2 h_7)⟩)), ⟨n_pr, n_nu, by rw [ht]; exact hP9, va_K.moved hW.alike hK9, hD9⟩⟩, hS.F ht⟩) hS.2.2 dX6_takeNumber_26

theorem lg_X6_readDeedNumber_0 (n_ta : Int32) (n_to : Int32) (n_tl : Int32) (n_bk : Int32) (yq : 0 ≤ n_ta.toInt ∧ n_ta.toInt ≤ 600 ∧ 0 ≤ n_to.toInt ∧ n_to.toInt ≤ 600 ∧ 0 ≤ n_tl.toInt ∧ n_tl.toInt ≤ 600) (yk : 0 ≤ n_bk.toInt ∧ n_bk.toInt ≤ 16) (h_2 : True) : True := by
  have := rg_rng n_ta; have := rg_rng n_to; have := rg_rng n_tl; have := rg_rng n_bk; trivial
set_option maxHeartbeats 4000000 in
set_option maxRecDepth 100000 in
theorem kX6_readDeedNumber (l : Launch) (dC : Nat → ClassId) (dI : Nat → Nat → Nat) (sz : Nat) (h0 : Nat) (d_tape : Nat) (n_pr : Int32) (n_nu : Int32) (p_bytes : Nat) (p_ts : Nat) (p_tc : Nat) (n_ta : Int32) (n_to : Int32) (n_tl : Int32) (k_tc : ClassId) (f_tc : Nat → Int32) (b0 : Nat) (b_deed : Nat) (b_value : Nat) (b_tests : Nat) (b_thing : Nat) (b_sign : Nat) (b_number : Nat) (n_bk : Int32) (k_bi : ClassId) (f_deed : Nat → Int32) (f_value : Nat → Int32) (v1 : Int32) (v2 : Int32) (yq : 0 ≤ n_ta.toInt ∧ n_ta.toInt ≤ 600 ∧ 0 ≤ n_to.toInt ∧ n_to.toInt ≤ 600 ∧ 0 ≤ n_tl.toInt ∧ n_tl.toInt ≤ 600) (yk : 0 ≤ n_bk.toInt ∧ n_bk.toInt ≤ 16) : Met l yX6_readDeedNumber (Cond.code yX6_readDeedNumber cX6_readDeedNumber 4 (some .boolean) :: bg) ({ frames := 2, cells := 0, slots := 0, locals := 44 }) (pcW dC dI [.ref h0, .int v1, .int v2, .ref b0] sz [(h0, .inr (6, [.ref d_tape, .int n_pr, .int n_nu])), (d_tape, .inr (9, [.ref p_bytes, .ref p_ts, .ref p_tc, .int n_ta, .int n_to, .int n_tl])), (p_tc, .inl (k_tc, 600, .inl f_tc)), (b0, .inr (5, [.ref b_deed, .ref b_value, .ref b_tests, .ref b_thing, .ref b_sign, .ref b_number, .int n_bk])), (b_deed, .inl (k_bi, 16, .inl f_deed)), (b_value, .inl (k_bi, 16, .inl f_value))] [(k_tc, .int), (k_bi, .int)]) (va_Qi (fun (r : Int32) (u : Unit) => (r = 1 ∧ True) ∨ (r = 0 ∧ True)) (fun (u : Unit) (t : State) => ∃ (w_pr : Int32) (w_nu : Int32) (w_deed : Nat → Int32) (w_value : Nat → Int32), va_P (dC, dI) vwCl [(h0, .inr (6, [.ref d_tape, .int w_pr, .int w_nu])), (d_tape, .inr (9, [.ref p_bytes, .ref p_ts, .ref p_tc, .int n_ta, .int n_to, .int n_tl])), (p_tc, .inl (k_tc, 600, .inl f_tc)), (b0, .inr (5, [.ref b_deed, .ref b_value, .ref b_tests, .ref b_thing, .ref b_sign, .ref b_number, .int n_bk])), (b_deed, .inl (k_bi, 16, .inl w_deed)), (b_value, .inl (k_bi, 16, .inl w_value))] t.heap ∧ va_K (dC, dI) vwCl [] t ∧ va_D (va_A [(h0, .inr (6, [.ref d_tape, .int n_pr, .int n_nu])), (d_tape, .inr (9, [.ref p_bytes, .ref p_ts, .ref p_tc, .int n_ta, .int n_to, .int n_tl])), (p_tc, .inl (k_tc, 600, .inl f_tc)), (b0, .inr (5, [.ref b_deed, .ref b_value, .ref b_tests, .ref b_thing, .ref b_sign, .ref b_number, .int n_bk])), (b_deed, .inl (k_bi, 16, .inl f_deed)), (b_value, .inl (k_bi, 16, .inl f_value))] sz) [(h0, .inr (6, [.ref d_tape, .int w_pr, .int w_nu])), (d_tape, .inr (9, [.ref p_bytes, .ref p_ts, .ref p_tc, .int n_ta, .int n_to, .int n_tl])), (p_tc, .inl (k_tc, 600, .inl f_tc)), (b0, .inr (5, [.ref b_deed, .ref b_value, .ref b_tests, .ref b_thing, .ref b_sign, .ref b_number, .int n_bk])), (b_deed, .inl (k_bi, 16, .inl w_deed)), (b_value, .inl (k_bi, 16, .inl w_value))]) (va_A [(h0, .inr (6, [.ref d_tape, .int n_pr, .int n_nu])), (d_tape, .inr (9, [.ref p_bytes, .ref p_ts, .ref p_tc, .int n_ta, .int n_to, .int n_tl])), (p_tc, .inl (k_tc, 600, .inl f_tc)), (b0, .inr (5, [.ref b_deed, .ref b_value, .ref b_tests, .ref b_thing, .ref b_sign, .ref b_number, .int n_bk])), (b_deed, .inl (k_bi, 16, .inl f_deed)), (b_value, .inl (k_bi, 16, .inl f_value))] sz)) 0 0 (va_A [(h0, .inr (6, [.ref d_tape, .int n_pr, .int n_nu])), (d_tape, .inr (9, [.ref p_bytes, .ref p_ts, .ref p_tc, .int n_ta, .int n_to, .int n_tl])), (p_tc, .inl (k_tc, 600, .inl f_tc)), (b0, .inr (5, [.ref b_deed, .ref b_value, .ref b_tests, .ref b_thing, .ref b_sign, .ref b_number, .int n_bk])), (b_deed, .inl (k_bi, 16, .inl f_deed)), (b_value, .inl (k_bi, 16, .inl f_value))] sz) := by
  refine Met.ofW (cc := cX6_readDeedNumber) (maxL := 4) (ret := (some .boolean)) pnX6 rfl ?_
  intro p e s m args below meth c s₁ B hml hv
  obtain ⟨rfl, hsz, hP, hK, hD0, hN⟩ := hv
  have hx := B.exec
  have hb := B.bytes
  have hr := B.returns
  have htb : ∀ w ∈ bg, w.before [.ref h0, .int v1, .int v2, .ref b0].toArray s = true := fun w h => atoms_spec (ws := Cond.code yX6_readDeedNumber cX6_readDeedNumber 4 (some .boolean) :: bg) B.pre w (List.mem_cons_of_mem _ h)
  have hown : s.vm.findClass RX6 = some m.cls := findClass_of_methodNamed B.named
  have hlocks := B.notSynchronized
  subst hsz
  have hD := hD0.self (sz := s.heap.size)
  generalize hAe : va_A [(h0, .inr (6, [.ref d_tape, .int n_pr, .int n_nu])), (d_tape, .inr (9, [.ref p_bytes, .ref p_ts, .ref p_tc, .int n_ta, .int n_to, .int n_tl])), (p_tc, .inl (k_tc, 600, .inl f_tc)), (b0, .inr (5, [.ref b_deed, .ref b_value, .ref b_tests, .ref b_thing, .ref b_sign, .ref b_number, .int n_bk])), (b_deed, .inl (k_bi, 16, .inl f_deed)), (b_value, .inl (k_bi, 16, .inl f_value))] s.heap.size = A at hD ⊢
  have hA : ∀ q : Nat, s.heap.size ≤ q → A q := fun q h => by rw [← hAe]; exact Or.inr h
  have hS : va_S A s.heap s.heap [] := va_S.rf
  have hl := lv_entry ([.ref h0, .int v1, .int v2, .ref b0]) (n := 4) (Nat.le_of_ble_eq_true rfl)
  rw [lg_entry_eq]
  generalize (lg_sl ([.ref h0, .int v1, .int v2, .ref b0]) ++ List.replicate (4 - (lg_sl ([.ref h0, .int v1, .int v2, .ref b0])).length) Slot.unset).toArray = ls at hl ⊢
  change lv_has ls 4 [(0, .ref h0), (1, .int v1), (2, .int v2), (3, .ref b0)] at hl
  clear hD0 hAe
  refine go0 (wsP := fun H => va_P (dC, dI) vwCl [(h0, .inr (6, [.ref d_tape, .int n_pr, .int n_nu])), (d_tape, .inr (9, [.ref p_bytes, .ref p_ts, .ref p_tc, .int n_ta, .int n_to, .int n_tl])), (p_tc, .inl (k_tc, 600, .inl f_tc)), (b0, .inr (5, [.ref b_deed, .ref b_value, .ref b_tests, .ref b_thing, .ref b_sign, .ref b_number, .int n_bk])), (b_deed, .inl (k_bi, 16, .inl f_deed)), (b_value, .inl (k_bi, 16, .inl f_value))] H) hP hS ?_
  clear hP hS; intro H locs hP hS
  change va_P (dC, dI) vwCl [(h0, .inr (6, [.ref d_tape, .int n_pr, .int n_nu])), (d_tape, .inr (9, [.ref p_bytes, .ref p_ts, .ref p_tc, .int n_ta, .int n_to, .int n_tl])), (p_tc, .inl (k_tc, 600, .inl f_tc)), (b0, .inr (5, [.ref b_deed, .ref b_value, .ref b_tests, .ref b_thing, .ref b_sign, .ref b_number, .int n_bk])), (b_deed, .inl (k_bi, 16, .inl f_deed)), (b_value, .inl (k_bi, 16, .inl f_value))] H at hP
  refine lv_aload_n hx hb dX6_readDeedNumber_0 rfl (lv_at hl 0 rfl) ?_
  refine lv_iload_n hx hb dX6_readDeedNumber_1 rfl (lv_at hl 2 rfl) ?_
  have hPc := hP.sub (ws' := [(h0, .inr (6, [.ref d_tape, .int n_pr, .int n_nu])), (d_tape, .inr (9, [.ref p_bytes, .ref p_ts, .ref p_tc, .int n_ta, .int n_to, .int n_tl])), (p_tc, .inl (k_tc, 600, .inl f_tc))]) [0, 1, 2] rfl
  have hDc := hD.sub (ws' := [(h0, .inr (6, [.ref d_tape, .int n_pr, .int n_nu])), (d_tape, .inr (9, [.ref p_bytes, .ref p_ts, .ref p_tc, .int n_ta, .int n_to, .int n_tl])), (p_tc, .inl (k_tc, 600, .inl f_tc))]) [0, 1, 2] (by decide) rfl
  have hKc := hK.sub (tys' := [(k_tc, .int)]) [0] rfl
  have hFc := va_free (wc := [(h0, .inr (6, [.ref d_tape, .int n_pr, .int n_nu])), (d_tape, .inr (9, [.ref p_bytes, .ref p_ts, .ref p_tc, .int n_ta, .int n_to, .int n_tl])), (p_tc, .inl (k_tc, 600, .inl f_tc))]) hD hS hA [0, 1, 2] rfl
  refine va_calli (va_runV (C := RX6) (As := [.int v2]) (rest := []) ⟨hx, hb, hml, hown, htb⟩ (kX6_takeNumber l dC dI H.size h0 d_tape n_pr n_nu p_bytes p_ts p_tc n_ta n_to n_tl k_tc f_tc v2 yq) ⟨callB_of 1 htb (gd_c m_934) rfl rfl rfl (htb _ m_11) (htb _ m_931) hdX6_takeNumber ⟨(Nat.le_of_ble_eq_true rfl), (Nat.le_of_ble_eq_true rfl)⟩, htb _ m_933, htb _ ms_26⟩ ⟨pcW_blind, va_recv hKc hPc (ci := 6) (q0 := 0) rfl rfl, pcW_at hPc hKc hDc hN⟩ rfl rfl hl.1 rfl (lv_room (Nat.le_of_ble_eq_true rfl)) dX6_readDeedNumber_2 ⟨(Nat.le_of_ble_eq_true rfl), (Nat.le_of_ble_eq_true rfl)⟩) hS (fun q _ h => hFc q h) hFc (fun r_1 u t H1 locs1 ht hvm h_2 hB hz1 hk1 hS1 => ?_)
  obtain ⟨w_pr_3, w_nu_4, hP1, hK1, hD1⟩ := hB
  rw [ht] at hP1
  obtain ⟨hPn, hDn⟩ := va_join (wr := [(b0, .inr (5, [.ref b_deed, .ref b_value, .ref b_tests, .ref b_thing, .ref b_sign, .ref b_number, .int n_bk])), (b_deed, .inl (k_bi, 16, .inl f_deed)), (b_value, .inl (k_bi, 16, .inl f_value))]) (w1 := [(h0, .inr (6, [.ref d_tape, .int w_pr_3, .int w_nu_4])), (d_tape, .inr (9, [.ref p_bytes, .ref p_ts, .ref p_tc, .int n_ta, .int n_to, .int n_tl])), (p_tc, .inl (k_tc, 600, .inl f_tc))]) hP hD [0, 1, 2] [3, 4, 5] rfl rfl (by decide) (by decide) hk1 hFc hP1 hD1
  clear hP1 hD1 hK1
  clear hP hD hS hPc hDc hKc hFc hk1 hz1 ht hvm
  clear t
  revert hS1 hPn hDn; generalize H1 = H; generalize locs1 = locs; intro hS hP hD
  change va_P (dC, dI) vwCl [(b0, .inr (5, [.ref b_deed, .ref b_value, .ref b_tests, .ref b_thing, .ref b_sign, .ref b_number, .int n_bk])), (b_deed, .inl (k_bi, 16, .inl f_deed)), (b_value, .inl (k_bi, 16, .inl f_value)), (h0, .inr (6, [.ref d_tape, .int w_pr_3, .int w_nu_4])), (d_tape, .inr (9, [.ref p_bytes, .ref p_ts, .ref p_tc, .int n_ta, .int n_to, .int n_tl])), (p_tc, .inl (k_tc, 600, .inl f_tc))] H at hP
  change va_D A [(b0, .inr (5, [.ref b_deed, .ref b_value, .ref b_tests, .ref b_thing, .ref b_sign, .ref b_number, .int n_bk])), (b_deed, .inl (k_bi, 16, .inl f_deed)), (b_value, .inl (k_bi, 16, .inl f_value)), (h0, .inr (6, [.ref d_tape, .int w_pr_3, .int w_nu_4])), (d_tape, .inr (9, [.ref p_bytes, .ref p_ts, .ref p_tc, .int n_ta, .int n_to, .int n_tl])), (p_tc, .inl (k_tc, 600, .inl f_tc))] at hD
  rcases h_2 with ⟨rfl, h_2⟩ | ⟨rfl, h_2⟩
  · refine lv_if_ne (tgt := 10) hx hb dX6_readDeedNumber_5 (by decide) ?_ (fun c_5 => absurd c_5 (by decide))
    intro _
    refine lv_aload_n hx hb dX6_readDeedNumber_10 rfl (lv_at hl 3 rfl) ?_
    refine lv_iload_n hx hb dX6_readDeedNumber_11 rfl (lv_at hl 1 rfl) ?_
    refine lv_aload_n hx hb dX6_readDeedNumber_12 rfl (lv_at hl 0 rfl) ?_
    refine va_get (D := (dC, dI)) (ci := 6) (v := .int w_nu_4) (C := RX6) (T := TX6) (N := 3) hx hb htb iX6 hown hK hP 3 rfl rfl 2 (Nat.le_of_ble_eq_true rfl) (htb _ m_265) (fun _ h9 => h9) rfl dX6_readDeedNumber_13 ?_
    have hPc := hP.sub (ws' := [(b0, .inr (5, [.ref b_deed, .ref b_value, .ref b_tests, .ref b_thing, .ref b_sign, .ref b_number, .int n_bk])), (b_deed, .inl (k_bi, 16, .inl f_deed)), (b_value, .inl (k_bi, 16, .inl f_value))]) [0, 1, 2] rfl
    have hDc := hD.sub (ws' := [(b0, .inr (5, [.ref b_deed, .ref b_value, .ref b_tests, .ref b_thing, .ref b_sign, .ref b_number, .int n_bk])), (b_deed, .inl (k_bi, 16, .inl f_deed)), (b_value, .inl (k_bi, 16, .inl f_value))]) [0, 1, 2] (by decide) rfl
    have hKc := hK.sub (tys' := [(k_bi, .int), (k_bi, .int)]) [1, 1] rfl
    have hFc := va_free (wc := [(b0, .inr (5, [.ref b_deed, .ref b_value, .ref b_tests, .ref b_thing, .ref b_sign, .ref b_number, .int n_bk])), (b_deed, .inl (k_bi, 16, .inl f_deed)), (b_value, .inl (k_bi, 16, .inl f_value))]) hD hS hA [0, 1, 2] rfl
    refine va_callv (va_runV (C := RX5) (As := [.int v1, .int w_nu_4]) (rest := []) ⟨hx, hb, hml, hown, htb⟩ (kX5_setDeed l dC dI H.size b0 b_deed b_value b_tests b_thing b_sign b_number n_bk k_bi k_bi f_deed f_value v1 w_nu_4 yk) ⟨callB_of 2 htb (gd_c m_939) rfl rfl rfl (htb _ m_12) (htb _ m_936) hdX5_setDeed ⟨(Nat.le_of_ble_eq_true rfl), (Nat.le_of_ble_eq_true rfl)⟩, htb _ m_937, htb _ m_938⟩ ⟨pcW_blind, va_recv hKc hPc (ci := 5) (q0 := 0) rfl rfl, pcW_at hPc hKc hDc hN⟩ rfl rfl hl.1 rfl (lv_room (Nat.le_of_ble_eq_true rfl)) dX6_readDeedNumber_16 ⟨(Nat.le_of_ble_eq_true rfl), (Nat.le_of_ble_eq_true rfl)⟩) hS (fun q _ h => hFc q h) hFc (fun u t H1 locs1 ht hvm h_7 hB hz1 hk1 hS1 => ?_)
    obtain ⟨w_deed_8, w_value_9, hP1, hK1, hD1⟩ := hB
    rw [ht] at hP1
    obtain ⟨hPn, hDn⟩ := va_join (wr := [(h0, .inr (6, [.ref d_tape, .int w_pr_3, .int w_nu_4])), (d_tape, .inr (9, [.ref p_bytes, .ref p_ts, .ref p_tc, .int n_ta, .int n_to, .int n_tl])), (p_tc, .inl (k_tc, 600, .inl f_tc))]) (w1 := [(b0, .inr (5, [.ref b_deed, .ref b_value, .ref b_tests, .ref b_thing, .ref b_sign, .ref b_number, .int n_bk])), (b_deed, .inl (k_bi, 16, .inl w_deed_8)), (b_value, .inl (k_bi, 16, .inl w_value_9))]) hP hD [0, 1, 2] [3, 4, 5] rfl rfl (by decide) (by decide) hk1 hFc hP1 hD1
    clear hP1 hD1 hK1
    clear hP hD hS hPc hDc hKc hFc hk1 hz1 ht hvm
    clear t
    revert hS1 hPn hDn; generalize H1 = H; generalize locs1 = locs; intro hS hP hD
    change va_P (dC, dI) vwCl [(h0, .inr (6, [.ref d_tape, .int w_pr_3, .int w_nu_4])), (d_tape, .inr (9, [.ref p_bytes, .ref p_ts, .ref p_tc, .int n_ta, .int n_to, .int n_tl])), (p_tc, .inl (k_tc, 600, .inl f_tc)), (b0, .inr (5, [.ref b_deed, .ref b_value, .ref b_tests, .ref b_thing, .ref b_sign, .ref b_number, .int n_bk])), (b_deed, .inl (k_bi, 16, .inl w_deed_8)), (b_value, .inl (k_bi, 16, .inl w_value_9))] H at hP
    change va_D A [(h0, .inr (6, [.ref d_tape, .int w_pr_3, .int w_nu_4])), (d_tape, .inr (9, [.ref p_bytes, .ref p_ts, .ref p_tc, .int n_ta, .int n_to, .int n_tl])), (p_tc, .inl (k_tc, 600, .inl f_tc)), (b0, .inr (5, [.ref b_deed, .ref b_value, .ref b_tests, .ref b_thing, .ref b_sign, .ref b_number, .int n_bk])), (b_deed, .inl (k_bi, 16, .inl w_deed_8)), (b_value, .inl (k_bi, 16, .inl w_value_9))] at hD
    refine lv_iconst (v := 1) hx hb dX6_readDeedNumber_19 (by decide) ?_
    refine W.widen (k := 0) (n := 0) (Nat.le_of_ble_eq_true rfl) (Nat.le_of_ble_eq_true rfl) ?_
    have hP9 := hP.sub (ws' := [(h0, .inr (6, [.ref d_tape, .int w_pr_3, .int w_nu_4])), (d_tape, .inr (9, [.ref p_bytes, .ref p_ts, .ref p_tc, .int n_ta, .int n_to, .int n_tl])), (p_tc, .inl (k_tc, 600, .inl f_tc)), (b0, .inr (5, [.ref b_deed, .ref b_value, .ref b_tests, .ref b_thing, .ref b_sign, .ref b_number, .int n_bk])), (b_deed, .inl (k_bi, 16, .inl w_deed_8)), (b_value, .inl (k_bi, 16, .inl w_value_9))]) [0, 1, 2, 3, 4, 5] rfl
    have hD9 := hD.sub (ws' := [(h0, .inr (6, [.ref d_tape, .int w_pr_3, .int w_nu_4])), (d_tape, .inr (9, [.ref p_bytes, .ref p_ts, .ref p_tc, .int n_ta, .int n_to, .int n_tl])), (p_tc, .inl (k_tc, 600, .inl f_tc)), (b0, .inr (5, [.ref b_deed, .ref b_value, .ref b_tests, .ref b_thing, .ref b_sign, .ref b_number, .int n_bk])), (b_deed, .inl (k_bi, 16, .inl w_deed_8)), (b_value, .inl (k_bi, 16, .inl w_value_9))]) [0, 1, 2, 3, 4, 5] (by decide) rfl
    have hK9 := hK.sub (tys' := []) [] rfl
    exact W.zret (ty := .boolean) (v := 1) hx hb hr rfl (fun t ht hW => ⟨⟨1, (), rfl, (Or.inl ⟨rfl, (lg_X6_readDeedNumber_0 n_ta n_to n_tl n_bk yq yk h_2)⟩), ⟨w_pr_3, w_nu_4, w_deed_8, w_value_9, by rw [ht]; exact hP9, va_K.moved hW.alike hK9, hD9⟩⟩, hS.F ht⟩) hS.2.2 dX6_readDeedNumber_20
  · refine lv_if_ne (tgt := 10) hx hb dX6_readDeedNumber_5 (by decide) (fun c_10 => absurd (by decide) c_10) ?_
    intro _
    refine lv_iconst (v := 0) hx hb dX6_readDeedNumber_8 (by decide) ?_
    refine W.widen (k := 0) (n := 0) (Nat.le_of_ble_eq_true rfl) (Nat.le_of_ble_eq_true rfl) ?_
    have hP9 := hP.sub (ws' := [(h0, .inr (6, [.ref d_tape, .int w_pr_3, .int w_nu_4])), (d_tape, .inr (9, [.ref p_bytes, .ref p_ts, .ref p_tc, .int n_ta, .int n_to, .int n_tl])), (p_tc, .inl (k_tc, 600, .inl f_tc)), (b0, .inr (5, [.ref b_deed, .ref b_value, .ref b_tests, .ref b_thing, .ref b_sign, .ref b_number, .int n_bk])), (b_deed, .inl (k_bi, 16, .inl f_deed)), (b_value, .inl (k_bi, 16, .inl f_value))]) [3, 4, 5, 0, 1, 2] rfl
    have hD9 := hD.sub (ws' := [(h0, .inr (6, [.ref d_tape, .int w_pr_3, .int w_nu_4])), (d_tape, .inr (9, [.ref p_bytes, .ref p_ts, .ref p_tc, .int n_ta, .int n_to, .int n_tl])), (p_tc, .inl (k_tc, 600, .inl f_tc)), (b0, .inr (5, [.ref b_deed, .ref b_value, .ref b_tests, .ref b_thing, .ref b_sign, .ref b_number, .int n_bk])), (b_deed, .inl (k_bi, 16, .inl f_deed)), (b_value, .inl (k_bi, 16, .inl f_value))]) [3, 4, 5, 0, 1, 2] (by decide) rfl
    have hK9 := hK.sub (tys' := []) [] rfl
    exact W.zret (ty := .boolean) (v := 0) hx hb hr rfl (fun t ht hW => ⟨⟨0, (), rfl, (Or.inr (⟨rfl, (lg_X6_readDeedNumber_0 n_ta n_to n_tl n_bk yq yk h_2)⟩)), ⟨w_pr_3, w_nu_4, f_deed, f_value, by rw [ht]; exact hP9, va_K.moved hW.alike hK9, hD9⟩⟩, hS.F ht⟩) hS.2.2 dX6_readDeedNumber_9

theorem lg_X6_readDeed_0 (n_ta : Int32) (n_to : Int32) (n_tl : Int32) (n_bk : Int32) (yq : 0 ≤ n_ta.toInt ∧ n_ta.toInt ≤ 600 ∧ 0 ≤ n_to.toInt ∧ n_to.toInt ≤ 600 ∧ 0 ≤ n_tl.toInt ∧ n_tl.toInt ≤ 600) (yk : 0 ≤ n_bk.toInt ∧ n_bk.toInt ≤ 16) (h_2 : True) : True := by
  have := rg_rng n_ta; have := rg_rng n_to; have := rg_rng n_tl; have := rg_rng n_bk; trivial
theorem lg_X6_readDeed_1 (n_ta : Int32) (n_to : Int32) (n_tl : Int32) (n_bk : Int32) (yq : 0 ≤ n_ta.toInt ∧ n_ta.toInt ≤ 600 ∧ 0 ≤ n_to.toInt ∧ n_to.toInt ≤ 600 ∧ 0 ≤ n_tl.toInt ∧ n_tl.toInt ≤ 600) (yk : 0 ≤ n_bk.toInt ∧ n_bk.toInt ≤ 16) (h_2 : True) (h_11 : True) (h_15 : True) : True := by
  have := rg_rng n_ta; have := rg_rng n_to; have := rg_rng n_tl; have := rg_rng n_bk; trivial
theorem lg_X6_readDeed_2 (n_ta : Int32) (n_to : Int32) (n_tl : Int32) (n_bk : Int32) (yq : 0 ≤ n_ta.toInt ∧ n_ta.toInt ≤ 600 ∧ 0 ≤ n_to.toInt ∧ n_to.toInt ≤ 600 ∧ 0 ≤ n_tl.toInt ∧ n_tl.toInt ≤ 600) (yk : 0 ≤ n_bk.toInt ∧ n_bk.toInt ≤ 16) (h_2 : True) (h_11 : True) : True := by
  have := rg_rng n_ta; have := rg_rng n_to; have := rg_rng n_tl; have := rg_rng n_bk; trivial
set_option maxHeartbeats 4000000 in
set_option maxRecDepth 100000 in
theorem kX6_readDeed (l : Launch) (dC : Nat → ClassId) (dI : Nat → Nat → Nat) (sz : Nat) (h0 : Nat) (d_tape : Nat) (n_pr : Int32) (n_nu : Int32) (p_bytes : Nat) (p_ts : Nat) (p_tc : Nat) (n_ta : Int32) (n_to : Int32) (n_tl : Int32) (k_tc : ClassId) (f_tc : Nat → Int32) (b0 : Nat) (b_deed : Nat) (b_value : Nat) (b_tests : Nat) (b_thing : Nat) (b_sign : Nat) (b_number : Nat) (n_bk : Int32) (k_bi : ClassId) (f_deed : Nat → Int32) (f_value : Nat → Int32) (yq : 0 ≤ n_ta.toInt ∧ n_ta.toInt ≤ 600 ∧ 0 ≤ n_to.toInt ∧ n_to.toInt ≤ 600 ∧ 0 ≤ n_tl.toInt ∧ n_tl.toInt ≤ 600) (yk : 0 ≤ n_bk.toInt ∧ n_bk.toInt ≤ 16) : Met l yX6_readDeed (Cond.code yX6_readDeed cX6_readDeed 2 (some .boolean) :: bg) ({ frames := 3, cells := 0, slots := 0, locals := 67 }) (pcW dC dI [.ref h0, .ref b0] sz [(h0, .inr (6, [.ref d_tape, .int n_pr, .int n_nu])), (d_tape, .inr (9, [.ref p_bytes, .ref p_ts, .ref p_tc, .int n_ta, .int n_to, .int n_tl])), (p_tc, .inl (k_tc, 600, .inl f_tc)), (b0, .inr (5, [.ref b_deed, .ref b_value, .ref b_tests, .ref b_thing, .ref b_sign, .ref b_number, .int n_bk])), (b_deed, .inl (k_bi, 16, .inl f_deed)), (b_value, .inl (k_bi, 16, .inl f_value))] [(k_tc, .int), (k_bi, .int)]) (va_Qi (fun (r : Int32) (u : Unit) => (r = 1 ∧ True) ∨ (r = 0 ∧ True)) (fun (u : Unit) (t : State) => ∃ (w_pr : Int32) (w_nu : Int32) (w_deed : Nat → Int32) (w_value : Nat → Int32), va_P (dC, dI) vwCl [(h0, .inr (6, [.ref d_tape, .int w_pr, .int w_nu])), (d_tape, .inr (9, [.ref p_bytes, .ref p_ts, .ref p_tc, .int n_ta, .int n_to, .int n_tl])), (p_tc, .inl (k_tc, 600, .inl f_tc)), (b0, .inr (5, [.ref b_deed, .ref b_value, .ref b_tests, .ref b_thing, .ref b_sign, .ref b_number, .int n_bk])), (b_deed, .inl (k_bi, 16, .inl w_deed)), (b_value, .inl (k_bi, 16, .inl w_value))] t.heap ∧ va_K (dC, dI) vwCl [] t ∧ va_D (va_A [(h0, .inr (6, [.ref d_tape, .int n_pr, .int n_nu])), (d_tape, .inr (9, [.ref p_bytes, .ref p_ts, .ref p_tc, .int n_ta, .int n_to, .int n_tl])), (p_tc, .inl (k_tc, 600, .inl f_tc)), (b0, .inr (5, [.ref b_deed, .ref b_value, .ref b_tests, .ref b_thing, .ref b_sign, .ref b_number, .int n_bk])), (b_deed, .inl (k_bi, 16, .inl f_deed)), (b_value, .inl (k_bi, 16, .inl f_value))] sz) [(h0, .inr (6, [.ref d_tape, .int w_pr, .int w_nu])), (d_tape, .inr (9, [.ref p_bytes, .ref p_ts, .ref p_tc, .int n_ta, .int n_to, .int n_tl])), (p_tc, .inl (k_tc, 600, .inl f_tc)), (b0, .inr (5, [.ref b_deed, .ref b_value, .ref b_tests, .ref b_thing, .ref b_sign, .ref b_number, .int n_bk])), (b_deed, .inl (k_bi, 16, .inl w_deed)), (b_value, .inl (k_bi, 16, .inl w_value))]) (va_A [(h0, .inr (6, [.ref d_tape, .int n_pr, .int n_nu])), (d_tape, .inr (9, [.ref p_bytes, .ref p_ts, .ref p_tc, .int n_ta, .int n_to, .int n_tl])), (p_tc, .inl (k_tc, 600, .inl f_tc)), (b0, .inr (5, [.ref b_deed, .ref b_value, .ref b_tests, .ref b_thing, .ref b_sign, .ref b_number, .int n_bk])), (b_deed, .inl (k_bi, 16, .inl f_deed)), (b_value, .inl (k_bi, 16, .inl f_value))] sz)) 0 0 (va_A [(h0, .inr (6, [.ref d_tape, .int n_pr, .int n_nu])), (d_tape, .inr (9, [.ref p_bytes, .ref p_ts, .ref p_tc, .int n_ta, .int n_to, .int n_tl])), (p_tc, .inl (k_tc, 600, .inl f_tc)), (b0, .inr (5, [.ref b_deed, .ref b_value, .ref b_tests, .ref b_thing, .ref b_sign, .ref b_number, .int n_bk])), (b_deed, .inl (k_bi, 16, .inl f_deed)), (b_value, .inl (k_bi, 16, .inl f_value))] sz) := by
  refine Met.ofW (cc := cX6_readDeed) (maxL := 2) (ret := (some .boolean)) pnX6 rfl ?_
  intro p e s m args below meth c s₁ B hml hv
  obtain ⟨rfl, hsz, hP, hK, hD0, hN⟩ := hv
  have hx := B.exec
  have hb := B.bytes
  have hr := B.returns
  have htb : ∀ w ∈ bg, w.before [.ref h0, .ref b0].toArray s = true := fun w h => atoms_spec (ws := Cond.code yX6_readDeed cX6_readDeed 2 (some .boolean) :: bg) B.pre w (List.mem_cons_of_mem _ h)
  have hown : s.vm.findClass RX6 = some m.cls := findClass_of_methodNamed B.named
  have hlocks := B.notSynchronized
  subst hsz
  have hD := hD0.self (sz := s.heap.size)
  generalize hAe : va_A [(h0, .inr (6, [.ref d_tape, .int n_pr, .int n_nu])), (d_tape, .inr (9, [.ref p_bytes, .ref p_ts, .ref p_tc, .int n_ta, .int n_to, .int n_tl])), (p_tc, .inl (k_tc, 600, .inl f_tc)), (b0, .inr (5, [.ref b_deed, .ref b_value, .ref b_tests, .ref b_thing, .ref b_sign, .ref b_number, .int n_bk])), (b_deed, .inl (k_bi, 16, .inl f_deed)), (b_value, .inl (k_bi, 16, .inl f_value))] s.heap.size = A at hD ⊢
  have hA : ∀ q : Nat, s.heap.size ≤ q → A q := fun q h => by rw [← hAe]; exact Or.inr h
  have hS : va_S A s.heap s.heap [] := va_S.rf
  have hl := lv_entry ([.ref h0, .ref b0]) (n := 2) (Nat.le_of_ble_eq_true rfl)
  rw [lg_entry_eq]
  generalize (lg_sl ([.ref h0, .ref b0]) ++ List.replicate (2 - (lg_sl ([.ref h0, .ref b0])).length) Slot.unset).toArray = ls at hl ⊢
  change lv_has ls 2 [(0, .ref h0), (1, .ref b0)] at hl
  clear hD0 hAe
  refine go0 (wsP := fun H => va_P (dC, dI) vwCl [(h0, .inr (6, [.ref d_tape, .int n_pr, .int n_nu])), (d_tape, .inr (9, [.ref p_bytes, .ref p_ts, .ref p_tc, .int n_ta, .int n_to, .int n_tl])), (p_tc, .inl (k_tc, 600, .inl f_tc)), (b0, .inr (5, [.ref b_deed, .ref b_value, .ref b_tests, .ref b_thing, .ref b_sign, .ref b_number, .int n_bk])), (b_deed, .inl (k_bi, 16, .inl f_deed)), (b_value, .inl (k_bi, 16, .inl f_value))] H) hP hS ?_
  clear hP hS; intro H locs hP hS
  change va_P (dC, dI) vwCl [(h0, .inr (6, [.ref d_tape, .int n_pr, .int n_nu])), (d_tape, .inr (9, [.ref p_bytes, .ref p_ts, .ref p_tc, .int n_ta, .int n_to, .int n_tl])), (p_tc, .inl (k_tc, 600, .inl f_tc)), (b0, .inr (5, [.ref b_deed, .ref b_value, .ref b_tests, .ref b_thing, .ref b_sign, .ref b_number, .int n_bk])), (b_deed, .inl (k_bi, 16, .inl f_deed)), (b_value, .inl (k_bi, 16, .inl f_value))] H at hP
  refine lv_aload_n hx hb dX6_readDeed_0 rfl (lv_at hl 0 rfl) ?_
  refine lv_bipush (v := 11) hx hb dX6_readDeed_1 (by decide) ?_
  have hPc := hP.sub (ws' := [(h0, .inr (6, [.ref d_tape, .int n_pr, .int n_nu])), (d_tape, .inr (9, [.ref p_bytes, .ref p_ts, .ref p_tc, .int n_ta, .int n_to, .int n_tl])), (p_tc, .inl (k_tc, 600, .inl f_tc))]) [0, 1, 2] rfl
  have hDc := hD.sub (ws' := [(h0, .inr (6, [.ref d_tape, .int n_pr, .int n_nu])), (d_tape, .inr (9, [.ref p_bytes, .ref p_ts, .ref p_tc, .int n_ta, .int n_to, .int n_tl])), (p_tc, .inl (k_tc, 600, .inl f_tc))]) [0, 1, 2] (by decide) rfl
  have hKc := hK.sub (tys' := [(k_tc, .int)]) [0] rfl
  have hFc := va_free (wc := [(h0, .inr (6, [.ref d_tape, .int n_pr, .int n_nu])), (d_tape, .inr (9, [.ref p_bytes, .ref p_ts, .ref p_tc, .int n_ta, .int n_to, .int n_tl])), (p_tc, .inl (k_tc, 600, .inl f_tc))]) hD hS hA [0, 1, 2] rfl
  refine va_calli (va_runV (C := RX6) (As := [.int 11]) (rest := []) ⟨hx, hb, hml, hown, htb⟩ (kX6_take l dC dI H.size h0 d_tape n_pr n_nu p_bytes p_ts p_tc n_ta n_to n_tl k_tc f_tc 11 yq) ⟨callB_of 1 htb (gd_c m_922) rfl rfl rfl (htb _ m_11) (htb _ m_919) hdX6_take ⟨(Nat.le_of_ble_eq_true rfl), (Nat.le_of_ble_eq_true rfl)⟩, htb _ m_921, htb _ ms_24⟩ ⟨pcW_blind, va_recv hKc hPc (ci := 6) (q0 := 0) rfl rfl, pcW_at hPc hKc hDc hN⟩ rfl rfl hl.1 rfl (lv_room (Nat.le_of_ble_eq_true rfl)) dX6_readDeed_3 ⟨(Nat.le_of_ble_eq_true rfl), (Nat.le_of_ble_eq_true rfl)⟩) hS (fun q _ h => hFc q h) hFc (fun r_1 u t H1 locs1 ht hvm h_2 hB hz1 hk1 hS1 => ?_)
  obtain ⟨w_pr_3, hP1, hK1, hD1⟩ := hB
  rw [ht] at hP1
  obtain ⟨hPn, hDn⟩ := va_join (wr := [(b0, .inr (5, [.ref b_deed, .ref b_value, .ref b_tests, .ref b_thing, .ref b_sign, .ref b_number, .int n_bk])), (b_deed, .inl (k_bi, 16, .inl f_deed)), (b_value, .inl (k_bi, 16, .inl f_value))]) (w1 := [(h0, .inr (6, [.ref d_tape, .int w_pr_3, .int n_nu])), (d_tape, .inr (9, [.ref p_bytes, .ref p_ts, .ref p_tc, .int n_ta, .int n_to, .int n_tl])), (p_tc, .inl (k_tc, 600, .inl f_tc))]) hP hD [0, 1, 2] [3, 4, 5] rfl rfl (by decide) (by decide) hk1 hFc hP1 hD1
  clear hP1 hD1 hK1
  clear hP hD hS hPc hDc hKc hFc hk1 hz1 ht hvm
  clear t
  revert hS1 hPn hDn; generalize H1 = H; generalize locs1 = locs; intro hS hP hD
  change va_P (dC, dI) vwCl [(b0, .inr (5, [.ref b_deed, .ref b_value, .ref b_tests, .ref b_thing, .ref b_sign, .ref b_number, .int n_bk])), (b_deed, .inl (k_bi, 16, .inl f_deed)), (b_value, .inl (k_bi, 16, .inl f_value)), (h0, .inr (6, [.ref d_tape, .int w_pr_3, .int n_nu])), (d_tape, .inr (9, [.ref p_bytes, .ref p_ts, .ref p_tc, .int n_ta, .int n_to, .int n_tl])), (p_tc, .inl (k_tc, 600, .inl f_tc))] H at hP
  change va_D A [(b0, .inr (5, [.ref b_deed, .ref b_value, .ref b_tests, .ref b_thing, .ref b_sign, .ref b_number, .int n_bk])), (b_deed, .inl (k_bi, 16, .inl f_deed)), (b_value, .inl (k_bi, 16, .inl f_value)), (h0, .inr (6, [.ref d_tape, .int w_pr_3, .int n_nu])), (d_tape, .inr (9, [.ref p_bytes, .ref p_ts, .ref p_tc, .int n_ta, .int n_to, .int n_tl])), (p_tc, .inl (k_tc, 600, .inl f_tc))] at hD
  rcases h_2 with ⟨rfl, h_2⟩ | ⟨rfl, h_2⟩
  · refine lv_if_eq (tgt := 18) hx hb dX6_readDeed_6 (by decide) (fun c_4 => absurd c_4 (by decide)) ?_
    intro _
    refine lv_aload_n hx hb dX6_readDeed_9 rfl (lv_at hl 1 rfl) ?_
    refine lv_bipush (v := 11) hx hb dX6_readDeed_10 (by decide) ?_
    refine lv_iconst (v := 0) hx hb dX6_readDeed_12 (by decide) ?_
    have hPc := hP.sub (ws' := [(b0, .inr (5, [.ref b_deed, .ref b_value, .ref b_tests, .ref b_thing, .ref b_sign, .ref b_number, .int n_bk])), (b_deed, .inl (k_bi, 16, .inl f_deed)), (b_value, .inl (k_bi, 16, .inl f_value))]) [0, 1, 2] rfl
    have hDc := hD.sub (ws' := [(b0, .inr (5, [.ref b_deed, .ref b_value, .ref b_tests, .ref b_thing, .ref b_sign, .ref b_number, .int n_bk])), (b_deed, .inl (k_bi, 16, .inl f_deed)), (b_value, .inl (k_bi, 16, .inl f_value))]) [0, 1, 2] (by decide) rfl
    have hKc := hK.sub (tys' := [(k_bi, .int), (k_bi, .int)]) [1, 1] rfl
    have hFc := va_free (wc := [(b0, .inr (5, [.ref b_deed, .ref b_value, .ref b_tests, .ref b_thing, .ref b_sign, .ref b_number, .int n_bk])), (b_deed, .inl (k_bi, 16, .inl f_deed)), (b_value, .inl (k_bi, 16, .inl f_value))]) hD hS hA [0, 1, 2] rfl
    refine va_callv (va_runV (C := RX5) (As := [.int 11, .int 0]) (rest := []) ⟨hx, hb, hml, hown, htb⟩ (kX5_setDeed l dC dI H.size b0 b_deed b_value b_tests b_thing b_sign b_number n_bk k_bi k_bi f_deed f_value 11 0 yk) ⟨callB_of 2 htb (gd_c m_939) rfl rfl rfl (htb _ m_12) (htb _ m_936) hdX5_setDeed ⟨(Nat.le_of_ble_eq_true rfl), (Nat.le_of_ble_eq_true rfl)⟩, htb _ m_937, htb _ m_938⟩ ⟨pcW_blind, va_recv hKc hPc (ci := 5) (q0 := 0) rfl rfl, pcW_at hPc hKc hDc hN⟩ rfl rfl hl.1 rfl (lv_room (Nat.le_of_ble_eq_true rfl)) dX6_readDeed_13 ⟨(Nat.le_of_ble_eq_true rfl), (Nat.le_of_ble_eq_true rfl)⟩) hS (fun q _ h => hFc q h) hFc (fun u t H1 locs1 ht hvm h_6 hB hz1 hk1 hS1 => ?_)
    obtain ⟨w_deed_7, w_value_8, hP1, hK1, hD1⟩ := hB
    rw [ht] at hP1
    obtain ⟨hPn, hDn⟩ := va_join (wr := [(h0, .inr (6, [.ref d_tape, .int w_pr_3, .int n_nu])), (d_tape, .inr (9, [.ref p_bytes, .ref p_ts, .ref p_tc, .int n_ta, .int n_to, .int n_tl])), (p_tc, .inl (k_tc, 600, .inl f_tc))]) (w1 := [(b0, .inr (5, [.ref b_deed, .ref b_value, .ref b_tests, .ref b_thing, .ref b_sign, .ref b_number, .int n_bk])), (b_deed, .inl (k_bi, 16, .inl w_deed_7)), (b_value, .inl (k_bi, 16, .inl w_value_8))]) hP hD [0, 1, 2] [3, 4, 5] rfl rfl (by decide) (by decide) hk1 hFc hP1 hD1
    clear hP1 hD1 hK1
    clear hP hD hS hPc hDc hKc hFc hk1 hz1 ht hvm
    clear t
    revert hS1 hPn hDn; generalize H1 = H; generalize locs1 = locs; intro hS hP hD
    change va_P (dC, dI) vwCl [(h0, .inr (6, [.ref d_tape, .int w_pr_3, .int n_nu])), (d_tape, .inr (9, [.ref p_bytes, .ref p_ts, .ref p_tc, .int n_ta, .int n_to, .int n_tl])), (p_tc, .inl (k_tc, 600, .inl f_tc)), (b0, .inr (5, [.ref b_deed, .ref b_value, .ref b_tests, .ref b_thing, .ref b_sign, .ref b_number, .int n_bk])), (b_deed, .inl (k_bi, 16, .inl w_deed_7)), (b_value, .inl (k_bi, 16, .inl w_value_8))] H at hP
    change va_D A [(h0, .inr (6, [.ref d_tape, .int w_pr_3, .int n_nu])), (d_tape, .inr (9, [.ref p_bytes, .ref p_ts, .ref p_tc, .int n_ta, .int n_to, .int n_tl])), (p_tc, .inl (k_tc, 600, .inl f_tc)), (b0, .inr (5, [.ref b_deed, .ref b_value, .ref b_tests, .ref b_thing, .ref b_sign, .ref b_number, .int n_bk])), (b_deed, .inl (k_bi, 16, .inl w_deed_7)), (b_value, .inl (k_bi, 16, .inl w_value_8))] at hD
    refine lv_iconst (v := 1) hx hb dX6_readDeed_16 (by decide) ?_
    refine W.widen (k := 0) (n := 0) (Nat.le_of_ble_eq_true rfl) (Nat.le_of_ble_eq_true rfl) ?_
    have hP9 := hP.sub (ws' := [(h0, .inr (6, [.ref d_tape, .int w_pr_3, .int n_nu])), (d_tape, .inr (9, [.ref p_bytes, .ref p_ts, .ref p_tc, .int n_ta, .int n_to, .int n_tl])), (p_tc, .inl (k_tc, 600, .inl f_tc)), (b0, .inr (5, [.ref b_deed, .ref b_value, .ref b_tests, .ref b_thing, .ref b_sign, .ref b_number, .int n_bk])), (b_deed, .inl (k_bi, 16, .inl w_deed_7)), (b_value, .inl (k_bi, 16, .inl w_value_8))]) [0, 1, 2, 3, 4, 5] rfl
    have hD9 := hD.sub (ws' := [(h0, .inr (6, [.ref d_tape, .int w_pr_3, .int n_nu])), (d_tape, .inr (9, [.ref p_bytes, .ref p_ts, .ref p_tc, .int n_ta, .int n_to, .int n_tl])), (p_tc, .inl (k_tc, 600, .inl f_tc)), (b0, .inr (5, [.ref b_deed, .ref b_value, .ref b_tests, .ref b_thing, .ref b_sign, .ref b_number, .int n_bk])), (b_deed, .inl (k_bi, 16, .inl w_deed_7)), (b_value, .inl (k_bi, 16, .inl w_value_8))]) [0, 1, 2, 3, 4, 5] (by decide) rfl
    have hK9 := hK.sub (tys' := []) [] rfl
    exact W.zret (ty := .boolean) (v := 1) hx hb hr rfl (fun t ht hW => ⟨⟨1, (), rfl, (Or.inl ⟨rfl, (lg_X6_readDeed_0 n_ta n_to n_tl n_bk yq yk h_2)⟩), ⟨w_pr_3, n_nu, w_deed_7, w_value_8, by rw [ht]; exact hP9, va_K.moved hW.alike hK9, hD9⟩⟩, hS.F ht⟩) hS.2.2 dX6_readDeed_17
  · refine lv_if_eq (tgt := 18) hx hb dX6_readDeed_6 (by decide) ?_ (fun c_9 => absurd (by decide) c_9)
    intro _
    refine lv_aload_n hx hb dX6_readDeed_18 rfl (lv_at hl 0 rfl) ?_
    refine lv_iconst (v := 2) hx hb dX6_readDeed_19 (by decide) ?_
    have hPc := hP.sub (ws' := [(h0, .inr (6, [.ref d_tape, .int w_pr_3, .int n_nu])), (d_tape, .inr (9, [.ref p_bytes, .ref p_ts, .ref p_tc, .int n_ta, .int n_to, .int n_tl])), (p_tc, .inl (k_tc, 600, .inl f_tc))]) [3, 4, 5] rfl
    have hDc := hD.sub (ws' := [(h0, .inr (6, [.ref d_tape, .int w_pr_3, .int n_nu])), (d_tape, .inr (9, [.ref p_bytes, .ref p_ts, .ref p_tc, .int n_ta, .int n_to, .int n_tl])), (p_tc, .inl (k_tc, 600, .inl f_tc))]) [3, 4, 5] (by decide) rfl
    have hKc := hK.sub (tys' := [(k_tc, .int)]) [0] rfl
    have hFc := va_free (wc := [(h0, .inr (6, [.ref d_tape, .int w_pr_3, .int n_nu])), (d_tape, .inr (9, [.ref p_bytes, .ref p_ts, .ref p_tc, .int n_ta, .int n_to, .int n_tl])), (p_tc, .inl (k_tc, 600, .inl f_tc))]) hD hS hA [3, 4, 5] rfl
    refine va_calli (va_runV (C := RX6) (As := [.int 2]) (rest := []) ⟨hx, hb, hml, hown, htb⟩ (kX6_take l dC dI H.size h0 d_tape w_pr_3 n_nu p_bytes p_ts p_tc n_ta n_to n_tl k_tc f_tc 2 yq) ⟨callB_of 1 htb (gd_c m_922) rfl rfl rfl (htb _ m_11) (htb _ m_919) hdX6_take ⟨(Nat.le_of_ble_eq_true rfl), (Nat.le_of_ble_eq_true rfl)⟩, htb _ m_921, htb _ ms_24⟩ ⟨pcW_blind, va_recv hKc hPc (ci := 6) (q0 := 0) rfl rfl, pcW_at hPc hKc hDc hN⟩ rfl rfl hl.1 rfl (lv_room (Nat.le_of_ble_eq_true rfl)) dX6_readDeed_20 ⟨(Nat.le_of_ble_eq_true rfl), (Nat.le_of_ble_eq_true rfl)⟩) hS (fun q _ h => hFc q h) hFc (fun r_10 u t H1 locs1 ht hvm h_11 hB hz1 hk1 hS1 => ?_)
    obtain ⟨w_pr_12, hP1, hK1, hD1⟩ := hB
    rw [ht] at hP1
    obtain ⟨hPn, hDn⟩ := va_join (wr := [(b0, .inr (5, [.ref b_deed, .ref b_value, .ref b_tests, .ref b_thing, .ref b_sign, .ref b_number, .int n_bk])), (b_deed, .inl (k_bi, 16, .inl f_deed)), (b_value, .inl (k_bi, 16, .inl f_value))]) (w1 := [(h0, .inr (6, [.ref d_tape, .int w_pr_12, .int n_nu])), (d_tape, .inr (9, [.ref p_bytes, .ref p_ts, .ref p_tc, .int n_ta, .int n_to, .int n_tl])), (p_tc, .inl (k_tc, 600, .inl f_tc))]) hP hD [3, 4, 5] [0, 1, 2] rfl rfl (by decide) (by decide) hk1 hFc hP1 hD1
    clear hP1 hD1 hK1
    clear hP hD hS hPc hDc hKc hFc hk1 hz1 ht hvm
    clear t
    revert hS1 hPn hDn; generalize H1 = H; generalize locs1 = locs; intro hS hP hD
    change va_P (dC, dI) vwCl [(b0, .inr (5, [.ref b_deed, .ref b_value, .ref b_tests, .ref b_thing, .ref b_sign, .ref b_number, .int n_bk])), (b_deed, .inl (k_bi, 16, .inl f_deed)), (b_value, .inl (k_bi, 16, .inl f_value)), (h0, .inr (6, [.ref d_tape, .int w_pr_12, .int n_nu])), (d_tape, .inr (9, [.ref p_bytes, .ref p_ts, .ref p_tc, .int n_ta, .int n_to, .int n_tl])), (p_tc, .inl (k_tc, 600, .inl f_tc))] H at hP
    change va_D A [(b0, .inr (5, [.ref b_deed, .ref b_value, .ref b_tests, .ref b_thing, .ref b_sign, .ref b_number, .int n_bk])), (b_deed, .inl (k_bi, 16, .inl f_deed)), (b_value, .inl (k_bi, 16, .inl f_value)), (h0, .inr (6, [.ref d_tape, .int w_pr_12, .int n_nu])), (d_tape, .inr (9, [.ref p_bytes, .ref p_ts, .ref p_tc, .int n_ta, .int n_to, .int n_tl])), (p_tc, .inl (k_tc, 600, .inl f_tc))] at hD
    rcases h_11 with ⟨rfl, h_11⟩ | ⟨rfl, h_11⟩
    · refine lv_if_eq (tgt := 41) hx hb dX6_readDeed_23 (by decide) (fun c_13 => absurd c_13 (by decide)) ?_
      intro _
      refine lv_aload_n hx hb dX6_readDeed_26 rfl (lv_at hl 0 rfl) ?_
      refine lv_iconst (v := 2) hx hb dX6_readDeed_27 (by decide) ?_
      refine lv_bipush (v := 9) hx hb dX6_readDeed_28 (by decide) ?_
      refine lv_aload_n hx hb dX6_readDeed_30 rfl (lv_at hl 1 rfl) ?_
      have hPc := hP.sub (ws' := [(h0, .inr (6, [.ref d_tape, .int w_pr_12, .int n_nu])), (d_tape, .inr (9, [.ref p_bytes, .ref p_ts, .ref p_tc, .int n_ta, .int n_to, .int n_tl])), (p_tc, .inl (k_tc, 600, .inl f_tc)), (b0, .inr (5, [.ref b_deed, .ref b_value, .ref b_tests, .ref b_thing, .ref b_sign, .ref b_number, .int n_bk])), (b_deed, .inl (k_bi, 16, .inl f_deed)), (b_value, .inl (k_bi, 16, .inl f_value))]) [3, 4, 5, 0, 1, 2] rfl
      have hDc := hD.sub (ws' := [(h0, .inr (6, [.ref d_tape, .int w_pr_12, .int n_nu])), (d_tape, .inr (9, [.ref p_bytes, .ref p_ts, .ref p_tc, .int n_ta, .int n_to, .int n_tl])), (p_tc, .inl (k_tc, 600, .inl f_tc)), (b0, .inr (5, [.ref b_deed, .ref b_value, .ref b_tests, .ref b_thing, .ref b_sign, .ref b_number, .int n_bk])), (b_deed, .inl (k_bi, 16, .inl f_deed)), (b_value, .inl (k_bi, 16, .inl f_value))]) [3, 4, 5, 0, 1, 2] (by decide) rfl
      have hKc := hK.sub (tys' := [(k_tc, .int), (k_bi, .int)]) [0, 1] rfl
      have hFc := va_free (wc := [(h0, .inr (6, [.ref d_tape, .int w_pr_12, .int n_nu])), (d_tape, .inr (9, [.ref p_bytes, .ref p_ts, .ref p_tc, .int n_ta, .int n_to, .int n_tl])), (p_tc, .inl (k_tc, 600, .inl f_tc)), (b0, .inr (5, [.ref b_deed, .ref b_value, .ref b_tests, .ref b_thing, .ref b_sign, .ref b_number, .int n_bk])), (b_deed, .inl (k_bi, 16, .inl f_deed)), (b_value, .inl (k_bi, 16, .inl f_value))]) hD hS hA [3, 4, 5, 0, 1, 2] rfl
      refine va_calli (va_runV (C := RX6) (As := [.int 2, .int 9, .ref b0]) (rest := []) ⟨hx, hb, hml, hown, htb⟩ (kX6_readDeedNumber l dC dI H.size h0 d_tape w_pr_12 n_nu p_bytes p_ts p_tc n_ta n_to n_tl k_tc f_tc b0 b_deed b_value b_tests b_thing b_sign b_number n_bk k_bi f_deed f_value 2 9 yq yk) ⟨callB_of 3 htb (gd_c m_930) rfl rfl rfl (htb _ m_11) (htb _ m_927) hdX6_readDeedNumber ⟨(Nat.le_of_ble_eq_true rfl), (Nat.le_of_ble_eq_true rfl)⟩, htb _ m_929, htb _ ms_25⟩ ⟨pcW_blind, va_recv hKc hPc (ci := 6) (q0 := 0) rfl rfl, pcW_at hPc hKc hDc hN⟩ rfl rfl hl.1 rfl (lv_room (Nat.le_of_ble_eq_true rfl)) dX6_readDeed_31 ⟨(Nat.le_of_ble_eq_true rfl), (Nat.le_of_ble_eq_true rfl)⟩) hS (fun q _ h => hFc q h) hFc (fun r_14 u t H1 locs1 ht hvm h_15 hB hz1 hk1 hS1 => ?_)
      obtain ⟨w_pr_16, w_nu_17, w_deed_18, w_value_19, hP1, hK1, hD1⟩ := hB
      rw [ht] at hP1
      obtain ⟨hPn, hDn⟩ := va_join (wr := []) (w1 := [(h0, .inr (6, [.ref d_tape, .int w_pr_16, .int w_nu_17])), (d_tape, .inr (9, [.ref p_bytes, .ref p_ts, .ref p_tc, .int n_ta, .int n_to, .int n_tl])), (p_tc, .inl (k_tc, 600, .inl f_tc)), (b0, .inr (5, [.ref b_deed, .ref b_value, .ref b_tests, .ref b_thing, .ref b_sign, .ref b_number, .int n_bk])), (b_deed, .inl (k_bi, 16, .inl w_deed_18)), (b_value, .inl (k_bi, 16, .inl w_value_19))]) hP hD [3, 4, 5, 0, 1, 2] [] rfl rfl (by decide) (by decide) hk1 hFc hP1 hD1
      clear hP1 hD1 hK1
      clear hP hD hS hPc hDc hKc hFc hk1 hz1 ht hvm
      clear t
      revert hS1 hPn hDn; generalize H1 = H; generalize locs1 = locs; intro hS hP hD
      change va_P (dC, dI) vwCl [(h0, .inr (6, [.ref d_tape, .int w_pr_16, .int w_nu_17])), (d_tape, .inr (9, [.ref p_bytes, .ref p_ts, .ref p_tc, .int n_ta, .int n_to, .int n_tl])), (p_tc, .inl (k_tc, 600, .inl f_tc)), (b0, .inr (5, [.ref b_deed, .ref b_value, .ref b_tests, .ref b_thing, .ref b_sign, .ref b_number, .int n_bk])), (b_deed, .inl (k_bi, 16, .inl w_deed_18)), (b_value, .inl (k_bi, 16, .inl w_value_19))] H at hP
      change va_D A [(h0, .inr (6, [.ref d_tape, .int w_pr_16, .int w_nu_17])), (d_tape, .inr (9, [.ref p_bytes, .ref p_ts, .ref p_tc, .int n_ta, .int n_to, .int n_tl])), (p_tc, .inl (k_tc, 600, .inl f_tc)), (b0, .inr (5, [.ref b_deed, .ref b_value, .ref b_tests, .ref b_thing, .ref b_sign, .ref b_number, .int n_bk])), (b_deed, .inl (k_bi, 16, .inl w_deed_18)), (b_value, .inl (k_bi, 16, .inl w_value_19))] at hD
      rcases h_15 with ⟨rfl, h_15⟩ | ⟨rfl, h_15⟩
      · refine lv_if_eq (tgt := 41) hx hb dX6_readDeed_34 (by decide) (fun c_20 => absurd c_20 (by decide)) ?_
        intro _
        refine lv_iconst (v := 1) hx hb dX6_readDeed_37 (by decide) ?_
        refine lv_goto (tgt := 42) hx hb dX6_readDeed_38 (by decide) ?_
        refine W.widen (k := 0) (n := 0) (Nat.le_of_ble_eq_true rfl) (Nat.le_of_ble_eq_true rfl) ?_
        have hP9 := hP.sub (ws' := [(h0, .inr (6, [.ref d_tape, .int w_pr_16, .int w_nu_17])), (d_tape, .inr (9, [.ref p_bytes, .ref p_ts, .ref p_tc, .int n_ta, .int n_to, .int n_tl])), (p_tc, .inl (k_tc, 600, .inl f_tc)), (b0, .inr (5, [.ref b_deed, .ref b_value, .ref b_tests, .ref b_thing, .ref b_sign, .ref b_number, .int n_bk])), (b_deed, .inl (k_bi, 16, .inl w_deed_18)), (b_value, .inl (k_bi, 16, .inl w_value_19))]) [0, 1, 2, 3, 4, 5] rfl
        have hD9 := hD.sub (ws' := [(h0, .inr (6, [.ref d_tape, .int w_pr_16, .int w_nu_17])), (d_tape, .inr (9, [.ref p_bytes, .ref p_ts, .ref p_tc, .int n_ta, .int n_to, .int n_tl])), (p_tc, .inl (k_tc, 600, .inl f_tc)), (b0, .inr (5, [.ref b_deed, .ref b_value, .ref b_tests, .ref b_thing, .ref b_sign, .ref b_number, .int n_bk])), (b_deed, .inl (k_bi, 16, .inl w_deed_18)), (b_value, .inl (k_bi, 16, .inl w_value_19))]) [0, 1, 2, 3, 4, 5] (by decide) rfl
        have hK9 := hK.sub (tys' := []) [] rfl
        exact W.zret (ty := .boolean) (v := 1) hx hb hr rfl (fun t ht hW => ⟨⟨1, (), rfl, (Or.inl ⟨rfl, (lg_X6_readDeed_1 n_ta n_to n_tl n_bk yq yk h_2 h_11 h_15)⟩), ⟨w_pr_16, w_nu_17, w_deed_18, w_value_19, by rw [ht]; exact hP9, va_K.moved hW.alike hK9, hD9⟩⟩, hS.F ht⟩) hS.2.2 dX6_readDeed_42
      · refine lv_if_eq (tgt := 41) hx hb dX6_readDeed_34 (by decide) ?_ (fun c_21 => absurd (by decide) c_21)
        intro _
        refine lv_iconst (v := 0) hx hb dX6_readDeed_41 (by decide) ?_
        refine W.widen (k := 0) (n := 0) (Nat.le_of_ble_eq_true rfl) (Nat.le_of_ble_eq_true rfl) ?_
        have hP9 := hP.sub (ws' := [(h0, .inr (6, [.ref d_tape, .int w_pr_16, .int w_nu_17])), (d_tape, .inr (9, [.ref p_bytes, .ref p_ts, .ref p_tc, .int n_ta, .int n_to, .int n_tl])), (p_tc, .inl (k_tc, 600, .inl f_tc)), (b0, .inr (5, [.ref b_deed, .ref b_value, .ref b_tests, .ref b_thing, .ref b_sign, .ref b_number, .int n_bk])), (b_deed, .inl (k_bi, 16, .inl w_deed_18)), (b_value, .inl (k_bi, 16, .inl w_value_19))]) [0, 1, 2, 3, 4, 5] rfl
        have hD9 := hD.sub (ws' := [(h0, .inr (6, [.ref d_tape, .int w_pr_16, .int w_nu_17])), (d_tape, .inr (9, [.ref p_bytes, .ref p_ts, .ref p_tc, .int n_ta, .int n_to, .int n_tl])), (p_tc, .inl (k_tc, 600, .inl f_tc)), (b0, .inr (5, [.ref b_deed, .ref b_value, .ref b_tests, .ref b_thing, .ref b_sign, .ref b_number, .int n_bk])), (b_deed, .inl (k_bi, 16, .inl w_deed_18)), (b_value, .inl (k_bi, 16, .inl w_value_19))]) [0, 1, 2, 3, 4, 5] (by decide) rfl
        have hK9 := hK.sub (tys' := []) [] rfl
        exact W.zret (ty := .boolean) (v := 0) hx hb hr rfl (fun t ht hW => ⟨⟨0, (), rfl, (Or.inr (⟨rfl, (lg_X6_readDeed_1 n_ta n_to n_tl n_bk yq yk h_2 h_11 h_15)⟩)), ⟨w_pr_16, w_nu_17, w_deed_18, w_value_19, by rw [ht]; exact hP9, va_K.moved hW.alike hK9, hD9⟩⟩, hS.F ht⟩) hS.2.2 dX6_readDeed_42
    · refine lv_if_eq (tgt := 41) hx hb dX6_readDeed_23 (by decide) ?_ (fun c_22 => absurd (by decide) c_22)
      intro _
      refine lv_iconst (v := 0) hx hb dX6_readDeed_41 (by decide) ?_
      refine W.widen (k := 0) (n := 0) (Nat.le_of_ble_eq_true rfl) (Nat.le_of_ble_eq_true rfl) ?_
      have hP9 := hP.sub (ws' := [(h0, .inr (6, [.ref d_tape, .int w_pr_12, .int n_nu])), (d_tape, .inr (9, [.ref p_bytes, .ref p_ts, .ref p_tc, .int n_ta, .int n_to, .int n_tl])), (p_tc, .inl (k_tc, 600, .inl f_tc)), (b0, .inr (5, [.ref b_deed, .ref b_value, .ref b_tests, .ref b_thing, .ref b_sign, .ref b_number, .int n_bk])), (b_deed, .inl (k_bi, 16, .inl f_deed)), (b_value, .inl (k_bi, 16, .inl f_value))]) [3, 4, 5, 0, 1, 2] rfl
      have hD9 := hD.sub (ws' := [(h0, .inr (6, [.ref d_tape, .int w_pr_12, .int n_nu])), (d_tape, .inr (9, [.ref p_bytes, .ref p_ts, .ref p_tc, .int n_ta, .int n_to, .int n_tl])), (p_tc, .inl (k_tc, 600, .inl f_tc)), (b0, .inr (5, [.ref b_deed, .ref b_value, .ref b_tests, .ref b_thing, .ref b_sign, .ref b_number, .int n_bk])), (b_deed, .inl (k_bi, 16, .inl f_deed)), (b_value, .inl (k_bi, 16, .inl f_value))]) [3, 4, 5, 0, 1, 2] (by decide) rfl
      have hK9 := hK.sub (tys' := []) [] rfl
      exact W.zret (ty := .boolean) (v := 0) hx hb hr rfl (fun t ht hW => ⟨⟨0, (), rfl, (Or.inr (⟨rfl, (lg_X6_readDeed_2 n_ta n_to n_tl n_bk yq yk h_2 h_11)⟩)), ⟨w_pr_12, n_nu, f_deed, f_value, by rw [ht]; exact hP9, va_K.moved hW.alike hK9, hD9⟩⟩, hS.F ht⟩) hS.2.2 dX6_readDeed_42

theorem lg_X6_readTest_0 (n_ta : Int32) (n_to : Int32) (n_tl : Int32) (n_bk : Int32) (r_1 : Int32) (yq : 0 ≤ n_ta.toInt ∧ n_ta.toInt ≤ 600 ∧ 0 ≤ n_to.toInt ∧ n_to.toInt ≤ 600 ∧ 0 ≤ n_tl.toInt ∧ n_tl.toInt ≤ 600) (yk : 0 ≤ n_bk.toInt ∧ n_bk.toInt ≤ 16) (h_2 : True) (h_4 : (0 : Int) ≤ r_1.toInt ∧ r_1.toInt ≤ (5 : Int)) (h_10 : True) (h_12 : True) (h_17 : True) : True := by
  have := rg_rng n_ta; have := rg_rng n_to; have := rg_rng n_tl; have := rg_rng n_bk; have := rg_rng r_1; trivial
theorem lg_X6_readTest_1 (n_ta : Int32) (n_to : Int32) (n_tl : Int32) (n_bk : Int32) (r_1 : Int32) (yq : 0 ≤ n_ta.toInt ∧ n_ta.toInt ≤ 600 ∧ 0 ≤ n_to.toInt ∧ n_to.toInt ≤ 600 ∧ 0 ≤ n_tl.toInt ∧ n_tl.toInt ≤ 600) (yk : 0 ≤ n_bk.toInt ∧ n_bk.toInt ≤ 16) (h_2 : True) (h_4 : (0 : Int) ≤ r_1.toInt ∧ r_1.toInt ≤ (5 : Int)) (h_10 : True) (h_12 : True) (h_31 : True) (h_36 : True) : True := by
  have := rg_rng n_ta; have := rg_rng n_to; have := rg_rng n_tl; have := rg_rng n_bk; have := rg_rng r_1; trivial
theorem lg_X6_readTest_2 (n_ta : Int32) (n_to : Int32) (n_tl : Int32) (n_bk : Int32) (r_1 : Int32) (yq : 0 ≤ n_ta.toInt ∧ n_ta.toInt ≤ 600 ∧ 0 ≤ n_to.toInt ∧ n_to.toInt ≤ 600 ∧ 0 ≤ n_tl.toInt ∧ n_tl.toInt ≤ 600) (yk : 0 ≤ n_bk.toInt ∧ n_bk.toInt ≤ 16) (h_2 : True) (h_4 : (0 : Int) ≤ r_1.toInt ∧ r_1.toInt ≤ (5 : Int)) (h_10 : True) (h_12 : True) (h_31 : True) (h_50 : True) (h_55 : True) : True := by
  have := rg_rng n_ta; have := rg_rng n_to; have := rg_rng n_tl; have := rg_rng n_bk; have := rg_rng r_1; trivial
theorem lg_X6_readTest_3 (n_ta : Int32) (n_to : Int32) (n_tl : Int32) (n_bk : Int32) (r_1 : Int32) (yq : 0 ≤ n_ta.toInt ∧ n_ta.toInt ≤ 600 ∧ 0 ≤ n_to.toInt ∧ n_to.toInt ≤ 600 ∧ 0 ≤ n_tl.toInt ∧ n_tl.toInt ≤ 600) (yk : 0 ≤ n_bk.toInt ∧ n_bk.toInt ≤ 16) (h_2 : True) (h_4 : (0 : Int) ≤ r_1.toInt ∧ r_1.toInt ≤ (5 : Int)) (h_10 : True) (h_12 : True) (h_31 : True) (h_50 : True) : True := by
  have := rg_rng n_ta; have := rg_rng n_to; have := rg_rng n_tl; have := rg_rng n_bk; have := rg_rng r_1; trivial
theorem lg_X6_readTest_4 (n_ta : Int32) (n_to : Int32) (n_tl : Int32) (n_bk : Int32) (r_1 : Int32) (yq : 0 ≤ n_ta.toInt ∧ n_ta.toInt ≤ 600 ∧ 0 ≤ n_to.toInt ∧ n_to.toInt ≤ 600 ∧ 0 ≤ n_tl.toInt ∧ n_tl.toInt ≤ 600) (yk : 0 ≤ n_bk.toInt ∧ n_bk.toInt ≤ 16) (h_2 : True) (h_4 : ¬ ((0 : Int) ≤ r_1.toInt ∧ r_1.toInt ≤ (5 : Int))) : True := by
  have := rg_rng n_ta; have := rg_rng n_to; have := rg_rng n_tl; have := rg_rng n_bk; have := rg_rng r_1; trivial
set_option maxHeartbeats 4000000 in
set_option maxRecDepth 100000 in
theorem kX6_readTest (l : Launch) (dC : Nat → ClassId) (dI : Nat → Nat → Nat) (sz : Nat) (h0 : Nat) (d_tape : Nat) (n_pr : Int32) (n_nu : Int32) (p_bytes : Nat) (p_ts : Nat) (p_tc : Nat) (n_ta : Int32) (n_to : Int32) (n_tl : Int32) (k_tc : ClassId) (f_tc : Nat → Int32) (b0 : Nat) (b_deed : Nat) (b_value : Nat) (b_tests : Nat) (b_thing : Nat) (b_sign : Nat) (b_number : Nat) (n_bk : Int32) (k_bi : ClassId) (f_tests : Nat → Int32) (f_thing : Nat → Int32) (f_sign : Nat → Int32) (f_number : Nat → Int32) (yq : 0 ≤ n_ta.toInt ∧ n_ta.toInt ≤ 600 ∧ 0 ≤ n_to.toInt ∧ n_to.toInt ≤ 600 ∧ 0 ≤ n_tl.toInt ∧ n_tl.toInt ≤ 600) (yk : 0 ≤ n_bk.toInt ∧ n_bk.toInt ≤ 16) (yt : Rg f_tests 16 0 3) : Met l yX6_readTest (Cond.code yX6_readTest cX6_readTest 5 (some .boolean) :: bg) ({ frames := 2, cells := 0, slots := 0, locals := 44 }) (pcW dC dI [.ref h0, .ref b0] sz [(h0, .inr (6, [.ref d_tape, .int n_pr, .int n_nu])), (d_tape, .inr (9, [.ref p_bytes, .ref p_ts, .ref p_tc, .int n_ta, .int n_to, .int n_tl])), (p_tc, .inl (k_tc, 600, .inl f_tc)), (b0, .inr (5, [.ref b_deed, .ref b_value, .ref b_tests, .ref b_thing, .ref b_sign, .ref b_number, .int n_bk])), (b_tests, .inl (k_bi, 16, .inl f_tests)), (b_thing, .inl (k_bi, 48, .inl f_thing)), (b_sign, .inl (k_bi, 48, .inl f_sign)), (b_number, .inl (k_bi, 48, .inl f_number))] [(k_tc, .int), (k_bi, .int)]) (va_Qi (fun (r : Int32) (u : Unit) => (r = 1 ∧ True) ∨ (r = 0 ∧ True)) (fun (u : Unit) (t : State) => ∃ (w_pr : Int32) (w_nu : Int32) (w_tests : Nat → Int32) (w_thing : Nat → Int32) (w_sign : Nat → Int32) (w_number : Nat → Int32), Rg w_tests 16 0 3 ∧ va_P (dC, dI) vwCl [(h0, .inr (6, [.ref d_tape, .int w_pr, .int w_nu])), (d_tape, .inr (9, [.ref p_bytes, .ref p_ts, .ref p_tc, .int n_ta, .int n_to, .int n_tl])), (p_tc, .inl (k_tc, 600, .inl f_tc)), (b0, .inr (5, [.ref b_deed, .ref b_value, .ref b_tests, .ref b_thing, .ref b_sign, .ref b_number, .int n_bk])), (b_tests, .inl (k_bi, 16, .inl w_tests)), (b_thing, .inl (k_bi, 48, .inl w_thing)), (b_sign, .inl (k_bi, 48, .inl w_sign)), (b_number, .inl (k_bi, 48, .inl w_number))] t.heap ∧ va_K (dC, dI) vwCl [] t ∧ va_D (va_A [(h0, .inr (6, [.ref d_tape, .int n_pr, .int n_nu])), (d_tape, .inr (9, [.ref p_bytes, .ref p_ts, .ref p_tc, .int n_ta, .int n_to, .int n_tl])), (p_tc, .inl (k_tc, 600, .inl f_tc)), (b0, .inr (5, [.ref b_deed, .ref b_value, .ref b_tests, .ref b_thing, .ref b_sign, .ref b_number, .int n_bk])), (b_tests, .inl (k_bi, 16, .inl f_tests)), (b_thing, .inl (k_bi, 48, .inl f_thing)), (b_sign, .inl (k_bi, 48, .inl f_sign)), (b_number, .inl (k_bi, 48, .inl f_number))] sz) [(h0, .inr (6, [.ref d_tape, .int w_pr, .int w_nu])), (d_tape, .inr (9, [.ref p_bytes, .ref p_ts, .ref p_tc, .int n_ta, .int n_to, .int n_tl])), (p_tc, .inl (k_tc, 600, .inl f_tc)), (b0, .inr (5, [.ref b_deed, .ref b_value, .ref b_tests, .ref b_thing, .ref b_sign, .ref b_number, .int n_bk])), (b_tests, .inl (k_bi, 16, .inl w_tests)), (b_thing, .inl (k_bi, 48, .inl w_thing)), (b_sign, .inl (k_bi, 48, .inl w_sign)), (b_number, .inl (k_bi, 48, .inl w_number))]) (va_A [(h0, .inr (6, [.ref d_tape, .int n_pr, .int n_nu])), (d_tape, .inr (9, [.ref p_bytes, .ref p_ts, .ref p_tc, .int n_ta, .int n_to, .int n_tl])), (p_tc, .inl (k_tc, 600, .inl f_tc)), (b0, .inr (5, [.ref b_deed, .ref b_value, .ref b_tests, .ref b_thing, .ref b_sign, .ref b_number, .int n_bk])), (b_tests, .inl (k_bi, 16, .inl f_tests)), (b_thing, .inl (k_bi, 48, .inl f_thing)), (b_sign, .inl (k_bi, 48, .inl f_sign)), (b_number, .inl (k_bi, 48, .inl f_number))] sz)) 0 0 (va_A [(h0, .inr (6, [.ref d_tape, .int n_pr, .int n_nu])), (d_tape, .inr (9, [.ref p_bytes, .ref p_ts, .ref p_tc, .int n_ta, .int n_to, .int n_tl])), (p_tc, .inl (k_tc, 600, .inl f_tc)), (b0, .inr (5, [.ref b_deed, .ref b_value, .ref b_tests, .ref b_thing, .ref b_sign, .ref b_number, .int n_bk])), (b_tests, .inl (k_bi, 16, .inl f_tests)), (b_thing, .inl (k_bi, 48, .inl f_thing)), (b_sign, .inl (k_bi, 48, .inl f_sign)), (b_number, .inl (k_bi, 48, .inl f_number))] sz) := by
  refine Met.ofW (cc := cX6_readTest) (maxL := 5) (ret := (some .boolean)) pnX6 rfl ?_
  intro p e s m args below meth c s₁ B hml hv
  obtain ⟨rfl, hsz, hP, hK, hD0, hN⟩ := hv
  have hx := B.exec
  have hb := B.bytes
  have hr := B.returns
  have htb : ∀ w ∈ bg, w.before [.ref h0, .ref b0].toArray s = true := fun w h => atoms_spec (ws := Cond.code yX6_readTest cX6_readTest 5 (some .boolean) :: bg) B.pre w (List.mem_cons_of_mem _ h)
  have hown : s.vm.findClass RX6 = some m.cls := findClass_of_methodNamed B.named
  have hlocks := B.notSynchronized
  subst hsz
  have hD := hD0.self (sz := s.heap.size)
  generalize hAe : va_A [(h0, .inr (6, [.ref d_tape, .int n_pr, .int n_nu])), (d_tape, .inr (9, [.ref p_bytes, .ref p_ts, .ref p_tc, .int n_ta, .int n_to, .int n_tl])), (p_tc, .inl (k_tc, 600, .inl f_tc)), (b0, .inr (5, [.ref b_deed, .ref b_value, .ref b_tests, .ref b_thing, .ref b_sign, .ref b_number, .int n_bk])), (b_tests, .inl (k_bi, 16, .inl f_tests)), (b_thing, .inl (k_bi, 48, .inl f_thing)), (b_sign, .inl (k_bi, 48, .inl f_sign)), (b_number, .inl (k_bi, 48, .inl f_number))] s.heap.size = A at hD ⊢
  have hA : ∀ q : Nat, s.heap.size ≤ q → A q := fun q h => by rw [← hAe]; exact Or.inr h
  have hS : va_S A s.heap s.heap [] := va_S.rf
  have hl := lv_entry ([.ref h0, .ref b0]) (n := 5) (Nat.le_of_ble_eq_true rfl)
  rw [lg_entry_eq]
  generalize (lg_sl ([.ref h0, .ref b0]) ++ List.replicate (5 - (lg_sl ([.ref h0, .ref b0])).length) Slot.unset).toArray = ls at hl ⊢
  change lv_has ls 5 [(0, .ref h0), (1, .ref b0)] at hl
  clear hD0 hAe
  refine go0 (wsP := fun H => va_P (dC, dI) vwCl [(h0, .inr (6, [.ref d_tape, .int n_pr, .int n_nu])), (d_tape, .inr (9, [.ref p_bytes, .ref p_ts, .ref p_tc, .int n_ta, .int n_to, .int n_tl])), (p_tc, .inl (k_tc, 600, .inl f_tc)), (b0, .inr (5, [.ref b_deed, .ref b_value, .ref b_tests, .ref b_thing, .ref b_sign, .ref b_number, .int n_bk])), (b_tests, .inl (k_bi, 16, .inl f_tests)), (b_thing, .inl (k_bi, 48, .inl f_thing)), (b_sign, .inl (k_bi, 48, .inl f_sign)), (b_number, .inl (k_bi, 48, .inl f_number))] H) hP hS ?_
  clear hP hS; intro H locs hP hS
  change va_P (dC, dI) vwCl [(h0, .inr (6, [.ref d_tape, .int n_pr, .int n_nu])), (d_tape, .inr (9, [.ref p_bytes, .ref p_ts, .ref p_tc, .int n_ta, .int n_to, .int n_tl])), (p_tc, .inl (k_tc, 600, .inl f_tc)), (b0, .inr (5, [.ref b_deed, .ref b_value, .ref b_tests, .ref b_thing, .ref b_sign, .ref b_number, .int n_bk])), (b_tests, .inl (k_bi, 16, .inl f_tests)), (b_thing, .inl (k_bi, 48, .inl f_thing)), (b_sign, .inl (k_bi, 48, .inl f_sign)), (b_number, .inl (k_bi, 48, .inl f_number))] H at hP
  refine lv_aload_n hx hb dX6_readTest_0 rfl (lv_at hl 0 rfl) ?_
  refine va_get (D := (dC, dI)) (ci := 6) (v := .ref d_tape) (C := RX6) (T := TX6) (N := 3) hx hb htb iX6 hown hK hP 0 rfl rfl 0 (Nat.le_of_ble_eq_true rfl) (htb _ m_263) (fun _ h9 => h9) rfl dX6_readTest_1 ?_
  refine lv_aload_n hx hb dX6_readTest_4 rfl (lv_at hl 0 rfl) ?_
  refine va_get (D := (dC, dI)) (ci := 6) (v := .int n_pr) (C := RX6) (T := TX6) (N := 3) hx hb htb iX6 hown hK hP 0 rfl rfl 1 (Nat.le_of_ble_eq_true rfl) (htb _ m_264) (fun _ h9 => h9) rfl dX6_readTest_5 ?_
  have hPc := hP.sub (ws' := [(d_tape, .inr (9, [.ref p_bytes, .ref p_ts, .ref p_tc, .int n_ta, .int n_to, .int n_tl])), (p_tc, .inl (k_tc, 600, .inl f_tc))]) [1, 2] rfl
  have hDc := hD.sub (ws' := [(d_tape, .inr (9, [.ref p_bytes, .ref p_ts, .ref p_tc, .int n_ta, .int n_to, .int n_tl])), (p_tc, .inl (k_tc, 600, .inl f_tc))]) [1, 2] (by decide) rfl
  have hKc := hK.sub (tys' := [(k_tc, .int)]) [0] rfl
  have hFc := va_free (wc := [(d_tape, .inr (9, [.ref p_bytes, .ref p_ts, .ref p_tc, .int n_ta, .int n_to, .int n_tl])), (p_tc, .inl (k_tc, 600, .inl f_tc))]) hD hS hA [1, 2] rfl
  refine va_calli (va_runV (C := RX9) (As := [.int n_pr]) (rest := []) ⟨hx, hb, hml, hown, htb⟩ (kX9_codeOf l dC dI H.size d_tape p_bytes p_ts p_tc n_ta n_to n_tl k_tc f_tc n_pr yq) ⟨callB_of 1 htb (gd_c m_926) rfl rfl rfl (htb _ m_10) (htb _ m_923) hdX9_codeOf ⟨(Nat.le_of_ble_eq_true rfl), (Nat.le_of_ble_eq_true rfl)⟩, htb _ m_924, htb _ m_925⟩ ⟨pcW_blind, va_recv hKc hPc (ci := 9) (q0 := 0) rfl rfl, pcW_at hPc hKc hDc hN⟩ rfl rfl hl.1 rfl (lv_room (Nat.le_of_ble_eq_true rfl)) dX6_readTest_8 ⟨(Nat.le_of_ble_eq_true rfl), (Nat.le_of_ble_eq_true rfl)⟩) hS (fun q _ h => hFc q h) hFc (fun r_1 u t H1 locs1 ht hvm h_2 hB hz1 hk1 hS1 => ?_)
  obtain ⟨hP1, hK1, hD1⟩ := hB
  rw [ht] at hP1
  obtain ⟨hPn, hDn⟩ := va_join (wr := [(h0, .inr (6, [.ref d_tape, .int n_pr, .int n_nu])), (b0, .inr (5, [.ref b_deed, .ref b_value, .ref b_tests, .ref b_thing, .ref b_sign, .ref b_number, .int n_bk])), (b_tests, .inl (k_bi, 16, .inl f_tests)), (b_thing, .inl (k_bi, 48, .inl f_thing)), (b_sign, .inl (k_bi, 48, .inl f_sign)), (b_number, .inl (k_bi, 48, .inl f_number))]) (w1 := [(d_tape, .inr (9, [.ref p_bytes, .ref p_ts, .ref p_tc, .int n_ta, .int n_to, .int n_tl])), (p_tc, .inl (k_tc, 600, .inl f_tc))]) hP hD [1, 2] [0, 3, 4, 5, 6, 7] rfl rfl (by decide) (by decide) hk1 hFc hP1 hD1
  clear hP1 hD1 hK1
  clear hP hD hS hPc hDc hKc hFc hk1 hz1 ht hvm
  clear t
  revert hS1 hPn hDn; generalize H1 = H; generalize locs1 = locs; intro hS hP hD
  change va_P (dC, dI) vwCl [(h0, .inr (6, [.ref d_tape, .int n_pr, .int n_nu])), (b0, .inr (5, [.ref b_deed, .ref b_value, .ref b_tests, .ref b_thing, .ref b_sign, .ref b_number, .int n_bk])), (b_tests, .inl (k_bi, 16, .inl f_tests)), (b_thing, .inl (k_bi, 48, .inl f_thing)), (b_sign, .inl (k_bi, 48, .inl f_sign)), (b_number, .inl (k_bi, 48, .inl f_number)), (d_tape, .inr (9, [.ref p_bytes, .ref p_ts, .ref p_tc, .int n_ta, .int n_to, .int n_tl])), (p_tc, .inl (k_tc, 600, .inl f_tc))] H at hP
  change va_D A [(h0, .inr (6, [.ref d_tape, .int n_pr, .int n_nu])), (b0, .inr (5, [.ref b_deed, .ref b_value, .ref b_tests, .ref b_thing, .ref b_sign, .ref b_number, .int n_bk])), (b_tests, .inl (k_bi, 16, .inl f_tests)), (b_thing, .inl (k_bi, 48, .inl f_thing)), (b_sign, .inl (k_bi, 48, .inl f_sign)), (b_number, .inl (k_bi, 48, .inl f_number)), (d_tape, .inr (9, [.ref p_bytes, .ref p_ts, .ref p_tc, .int n_ta, .int n_to, .int n_tl])), (p_tc, .inl (k_tc, 600, .inl f_tc))] at hD
  refine lv_istore_n (lv' := [(2, .int r_1), (0, .ref h0), (1, .ref b0)]) hx hb dX6_readTest_11 rfl hl (by decide) rfl ?_
  clear hl; intro ls hl
  refine lv_iload_n hx hb dX6_readTest_12 rfl (lv_at hl 0 rfl) ?_
  refine lv_iconst (v := 0) hx hb dX6_readTest_13 (by decide) ?_
  refine lv_iconst (v := 5) hx hb dX6_readTest_14 (by decide) ?_
  have hPc := hP.sub (ws' := []) [] rfl
  have hDc := hD.sub (ws' := []) [] (by decide) rfl
  have hKc := hK.sub (tys' := []) [] rfl
  have hFc := va_free (wc := []) hD hS hA [] rfl
  refine va_calli (va_runSN (As := [.int r_1, .int 0, .int 5]) (rest := []) ⟨hx, hb, hml, hown, htb⟩ (kX11_isWithin l dC dI H.size r_1 0 5 ) ⟨va_cnB 3 htb (gd_c m_355) rfl rfl rfl (hN.1 _ nm_30) (htb _ m_1) hdX11_isWithin ⟨(Nat.le_of_ble_eq_true rfl), (Nat.le_of_ble_eq_true rfl)⟩, htb _ m_354, trivial⟩ ⟨pcW_blind, pcW_at hPc hKc hDc hN⟩ rfl rfl hl.1 rfl (lv_room (Nat.le_of_ble_eq_true rfl)) dX6_readTest_15 ⟨(Nat.le_of_ble_eq_true rfl), (Nat.le_of_ble_eq_true rfl)⟩) hS (fun q _ h => hFc q h) hFc (fun r_3 u t H1 locs1 ht hvm h_4 hB hz1 hk1 hS1 => ?_)
  obtain ⟨hP1, hK1, hD1⟩ := hB
  rw [ht] at hP1
  obtain ⟨hPn, hDn⟩ := va_join (wr := [(h0, .inr (6, [.ref d_tape, .int n_pr, .int n_nu])), (b0, .inr (5, [.ref b_deed, .ref b_value, .ref b_tests, .ref b_thing, .ref b_sign, .ref b_number, .int n_bk])), (b_tests, .inl (k_bi, 16, .inl f_tests)), (b_thing, .inl (k_bi, 48, .inl f_thing)), (b_sign, .inl (k_bi, 48, .inl f_sign)), (b_number, .inl (k_bi, 48, .inl f_number)), (d_tape, .inr (9, [.ref p_bytes, .ref p_ts, .ref p_tc, .int n_ta, .int n_to, .int n_tl])), (p_tc, .inl (k_tc, 600, .inl f_tc))]) (w1 := []) hP hD [] [0, 1, 2, 3, 4, 5, 6, 7] rfl rfl (by decide) (by decide) hk1 hFc hP1 hD1
  clear hP1 hD1 hK1
  clear hP hD hS hPc hDc hKc hFc hk1 hz1 ht hvm
  clear t
  revert hS1 hPn hDn; generalize H1 = H; generalize locs1 = locs; intro hS hP hD
  change va_P (dC, dI) vwCl [(h0, .inr (6, [.ref d_tape, .int n_pr, .int n_nu])), (b0, .inr (5, [.ref b_deed, .ref b_value, .ref b_tests, .ref b_thing, .ref b_sign, .ref b_number, .int n_bk])), (b_tests, .inl (k_bi, 16, .inl f_tests)), (b_thing, .inl (k_bi, 48, .inl f_thing)), (b_sign, .inl (k_bi, 48, .inl f_sign)), (b_number, .inl (k_bi, 48, .inl f_number)), (d_tape, .inr (9, [.ref p_bytes, .ref p_ts, .ref p_tc, .int n_ta, .int n_to, .int n_tl])), (p_tc, .inl (k_tc, 600, .inl f_tc))] H at hP
  change va_D A [(h0, .inr (6, [.ref d_tape, .int n_pr, .int n_nu])), (b0, .inr (5, [.ref b_deed, .ref b_value, .ref b_tests, .ref b_thing, .ref b_sign, .ref b_number, .int n_bk])), (b_tests, .inl (k_bi, 16, .inl f_tests)), (b_thing, .inl (k_bi, 48, .inl f_thing)), (b_sign, .inl (k_bi, 48, .inl f_sign)), (b_number, .inl (k_bi, 48, .inl f_number)), (d_tape, .inr (9, [.ref p_bytes, .ref p_ts, .ref p_tc, .int n_ta, .int n_to, .int n_tl])), (p_tc, .inl (k_tc, 600, .inl f_tc))] at hD
  rcases h_4 with ⟨rfl, h_4⟩ | ⟨rfl, h_4⟩
  · refine lv_if_ne (tgt := 23) hx hb dX6_readTest_18 (by decide) ?_ (fun c_5 => absurd c_5 (by decide))
    intro _
    refine lv_aload_n hx hb dX6_readTest_23 rfl (lv_at hl 1 rfl) ?_
    refine lv_dup hx hb dX6_readTest_24 rfl ?_
    refine va_get (D := (dC, dI)) (ci := 6) (v := .int n_pr) (C := RX6) (T := TX6) (N := 3) hx hb htb iX6 hown hK hP 0 rfl rfl 1 (Nat.le_of_ble_eq_true rfl) (htb _ m_264) (fun _ h9 => h9) rfl dX6_readTest_25 ?_
    refine lv_iconst (v := 1) hx hb dX6_readTest_28 (by decide) ?_
    refine lv_iadd hx hb dX6_readTest_29 ?_
    refine lv_topi (fun x_6 ex_7 => ?_)
    refine va_put (D := (dC, dI)) (ci := 6) (v := .int x_6) (C := RX6) (T := TX6) (N := 3) hx hb htb iX6 tyX6 tyX6_ok nmX6 hown hK hP hD hS 0 rfl rfl 1 (Nat.le_of_ble_eq_true rfl) (htb _ m_264) (fun _ h9 => h9) rfl (tyX6_ok 1 (Nat.le_of_ble_eq_true rfl)) rfl rfl (Nat.le_of_ble_eq_true rfl) dX6_readTest_30 ?_
    clear hP hD hS; intro H locs hP hD hS
    change va_P (dC, dI) vwCl [(h0, .inr (6, [.ref d_tape, .int x_6, .int n_nu])), (b0, .inr (5, [.ref b_deed, .ref b_value, .ref b_tests, .ref b_thing, .ref b_sign, .ref b_number, .int n_bk])), (b_tests, .inl (k_bi, 16, .inl f_tests)), (b_thing, .inl (k_bi, 48, .inl f_thing)), (b_sign, .inl (k_bi, 48, .inl f_sign)), (b_number, .inl (k_bi, 48, .inl f_number)), (d_tape, .inr (9, [.ref p_bytes, .ref p_ts, .ref p_tc, .int n_ta, .int n_to, .int n_tl])), (p_tc, .inl (k_tc, 600, .inl f_tc))] H at hP
    change va_D A [(h0, .inr (6, [.ref d_tape, .int x_6, .int n_nu])), (b0, .inr (5, [.ref b_deed, .ref b_value, .ref b_tests, .ref b_thing, .ref b_sign, .ref b_number, .int n_bk])), (b_tests, .inl (k_bi, 16, .inl f_tests)), (b_thing, .inl (k_bi, 48, .inl f_thing)), (b_sign, .inl (k_bi, 48, .inl f_sign)), (b_number, .inl (k_bi, 48, .inl f_number)), (d_tape, .inr (9, [.ref p_bytes, .ref p_ts, .ref p_tc, .int n_ta, .int n_to, .int n_tl])), (p_tc, .inl (k_tc, 600, .inl f_tc))] at hD
    refine lv_aload_n hx hb dX6_readTest_33 rfl (lv_at hl 1 rfl) ?_
    refine va_get (D := (dC, dI)) (ci := 6) (v := .ref d_tape) (C := RX6) (T := TX6) (N := 3) hx hb htb iX6 hown hK hP 0 rfl rfl 0 (Nat.le_of_ble_eq_true rfl) (htb _ m_263) (fun _ h9 => h9) rfl dX6_readTest_34 ?_
    refine lv_aload_n hx hb dX6_readTest_37 rfl (lv_at hl 1 rfl) ?_
    refine va_get (D := (dC, dI)) (ci := 6) (v := .int x_6) (C := RX6) (T := TX6) (N := 3) hx hb htb iX6 hown hK hP 0 rfl rfl 1 (Nat.le_of_ble_eq_true rfl) (htb _ m_264) (fun _ h9 => h9) rfl dX6_readTest_38 ?_
    have hPc := hP.sub (ws' := [(d_tape, .inr (9, [.ref p_bytes, .ref p_ts, .ref p_tc, .int n_ta, .int n_to, .int n_tl])), (p_tc, .inl (k_tc, 600, .inl f_tc))]) [6, 7] rfl
    have hDc := hD.sub (ws' := [(d_tape, .inr (9, [.ref p_bytes, .ref p_ts, .ref p_tc, .int n_ta, .int n_to, .int n_tl])), (p_tc, .inl (k_tc, 600, .inl f_tc))]) [6, 7] (by decide) rfl
    have hKc := hK.sub (tys' := [(k_tc, .int)]) [0] rfl
    have hFc := va_free (wc := [(d_tape, .inr (9, [.ref p_bytes, .ref p_ts, .ref p_tc, .int n_ta, .int n_to, .int n_tl])), (p_tc, .inl (k_tc, 600, .inl f_tc))]) hD hS hA [6, 7] rfl
    refine va_calli (va_runV (C := RX9) (As := [.int x_6]) (rest := []) ⟨hx, hb, hml, hown, htb⟩ (kX9_codeOf l dC dI H.size d_tape p_bytes p_ts p_tc n_ta n_to n_tl k_tc f_tc x_6 yq) ⟨callB_of 1 htb (gd_c m_926) rfl rfl rfl (htb _ m_10) (htb _ m_923) hdX9_codeOf ⟨(Nat.le_of_ble_eq_true rfl), (Nat.le_of_ble_eq_true rfl)⟩, htb _ m_924, htb _ m_925⟩ ⟨pcW_blind, va_recv hKc hPc (ci := 9) (q0 := 0) rfl rfl, pcW_at hPc hKc hDc hN⟩ rfl rfl hl.1 rfl (lv_room (Nat.le_of_ble_eq_true rfl)) dX6_readTest_41 ⟨(Nat.le_of_ble_eq_true rfl), (Nat.le_of_ble_eq_true rfl)⟩) hS (fun q _ h => hFc q h) hFc (fun r_9 u t H1 locs1 ht hvm h_10 hB hz1 hk1 hS1 => ?_)
    obtain ⟨hP1, hK1, hD1⟩ := hB
    rw [ht] at hP1
    obtain ⟨hPn, hDn⟩ := va_join (wr := [(h0, .inr (6, [.ref d_tape, .int x_6, .int n_nu])), (b0, .inr (5, [.ref b_deed, .ref b_value, .ref b_tests, .ref b_thing, .ref b_sign, .ref b_number, .int n_bk])), (b_tests, .inl (k_bi, 16, .inl f_tests)), (b_thing, .inl (k_bi, 48, .inl f_thing)), (b_sign, .inl (k_bi, 48, .inl f_sign)), (b_number, .inl (k_bi, 48, .inl f_number))]) (w1 := [(d_tape, .inr (9, [.ref p_bytes, .ref p_ts, .ref p_tc, .int n_ta, .int n_to, .int n_tl])), (p_tc, .inl (k_tc, 600, .inl f_tc))]) hP hD [6, 7] [0, 1, 2, 3, 4, 5] rfl rfl (by decide) (by decide) hk1 hFc hP1 hD1
    clear hP1 hD1 hK1
    clear hP hD hS hPc hDc hKc hFc hk1 hz1 ht hvm
    clear t
    revert hS1 hPn hDn; generalize H1 = H; generalize locs1 = locs; intro hS hP hD
    change va_P (dC, dI) vwCl [(h0, .inr (6, [.ref d_tape, .int x_6, .int n_nu])), (b0, .inr (5, [.ref b_deed, .ref b_value, .ref b_tests, .ref b_thing, .ref b_sign, .ref b_number, .int n_bk])), (b_tests, .inl (k_bi, 16, .inl f_tests)), (b_thing, .inl (k_bi, 48, .inl f_thing)), (b_sign, .inl (k_bi, 48, .inl f_sign)), (b_number, .inl (k_bi, 48, .inl f_number)), (d_tape, .inr (9, [.ref p_bytes, .ref p_ts, .ref p_tc, .int n_ta, .int n_to, .int n_tl])), (p_tc, .inl (k_tc, 600, .inl f_tc))] H at hP
    change va_D A [(h0, .inr (6, [.ref d_tape, .int x_6, .int n_nu])), (b0, .inr (5, [.ref b_deed, .ref b_value, .ref b_tests, .ref b_thing, .ref b_sign, .ref b_number, .int n_bk])), (b_tests, .inl (k_bi, 16, .inl f_tests)), (b_thing, .inl (k_bi, 48, .inl f_thing)), (b_sign, .inl (k_bi, 48, .inl f_sign)), (b_number, .inl (k_bi, 48, .inl f_number)), (d_tape, .inr (9, [.ref p_bytes, .ref p_ts, .ref p_tc, .int n_ta, .int n_to, .int n_tl])), (p_tc, .inl (k_tc, 600, .inl f_tc))] at hD
    refine lv_istore_n (lv' := [(3, .int r_9), (2, .int r_1), (0, .ref h0), (1, .ref b0)]) hx hb dX6_readTest_44 rfl hl (by decide) rfl ?_
    clear hl; intro ls hl
    refine lv_aload_n hx hb dX6_readTest_45 rfl (lv_at hl 2 rfl) ?_
    refine lv_bipush (v := 60) hx hb dX6_readTest_46 (by decide) ?_
    have hPc := hP.sub (ws' := [(h0, .inr (6, [.ref d_tape, .int x_6, .int n_nu])), (d_tape, .inr (9, [.ref p_bytes, .ref p_ts, .ref p_tc, .int n_ta, .int n_to, .int n_tl])), (p_tc, .inl (k_tc, 600, .inl f_tc))]) [0, 6, 7] rfl
    have hDc := hD.sub (ws' := [(h0, .inr (6, [.ref d_tape, .int x_6, .int n_nu])), (d_tape, .inr (9, [.ref p_bytes, .ref p_ts, .ref p_tc, .int n_ta, .int n_to, .int n_tl])), (p_tc, .inl (k_tc, 600, .inl f_tc))]) [0, 6, 7] (by decide) rfl
    have hKc := hK.sub (tys' := [(k_tc, .int)]) [0] rfl
    have hFc := va_free (wc := [(h0, .inr (6, [.ref d_tape, .int x_6, .int n_nu])), (d_tape, .inr (9, [.ref p_bytes, .ref p_ts, .ref p_tc, .int n_ta, .int n_to, .int n_tl])), (p_tc, .inl (k_tc, 600, .inl f_tc))]) hD hS hA [0, 6, 7] rfl
    refine va_calli (va_runV (C := RX6) (As := [.int 60]) (rest := []) ⟨hx, hb, hml, hown, htb⟩ (kX6_take l dC dI H.size h0 d_tape x_6 n_nu p_bytes p_ts p_tc n_ta n_to n_tl k_tc f_tc 60 yq) ⟨callB_of 1 htb (gd_c m_922) rfl rfl rfl (htb _ m_11) (htb _ m_919) hdX6_take ⟨(Nat.le_of_ble_eq_true rfl), (Nat.le_of_ble_eq_true rfl)⟩, htb _ m_921, htb _ ms_24⟩ ⟨pcW_blind, va_recv hKc hPc (ci := 6) (q0 := 0) rfl rfl, pcW_at hPc hKc hDc hN⟩ rfl rfl hl.1 rfl (lv_room (Nat.le_of_ble_eq_true rfl)) dX6_readTest_48 ⟨(Nat.le_of_ble_eq_true rfl), (Nat.le_of_ble_eq_true rfl)⟩) hS (fun q _ h => hFc q h) hFc (fun r_11 u t H1 locs1 ht hvm h_12 hB hz1 hk1 hS1 => ?_)
    obtain ⟨w_pr_13, hP1, hK1, hD1⟩ := hB
    rw [ht] at hP1
    obtain ⟨hPn, hDn⟩ := va_join (wr := [(b0, .inr (5, [.ref b_deed, .ref b_value, .ref b_tests, .ref b_thing, .ref b_sign, .ref b_number, .int n_bk])), (b_tests, .inl (k_bi, 16, .inl f_tests)), (b_thing, .inl (k_bi, 48, .inl f_thing)), (b_sign, .inl (k_bi, 48, .inl f_sign)), (b_number, .inl (k_bi, 48, .inl f_number))]) (w1 := [(h0, .inr (6, [.ref d_tape, .int w_pr_13, .int n_nu])), (d_tape, .inr (9, [.ref p_bytes, .ref p_ts, .ref p_tc, .int n_ta, .int n_to, .int n_tl])), (p_tc, .inl (k_tc, 600, .inl f_tc))]) hP hD [0, 6, 7] [1, 2, 3, 4, 5] rfl rfl (by decide) (by decide) hk1 hFc hP1 hD1
    clear hP1 hD1 hK1
    clear hP hD hS hPc hDc hKc hFc hk1 hz1 ht hvm
    clear t
    revert hS1 hPn hDn; generalize H1 = H; generalize locs1 = locs; intro hS hP hD
    change va_P (dC, dI) vwCl [(b0, .inr (5, [.ref b_deed, .ref b_value, .ref b_tests, .ref b_thing, .ref b_sign, .ref b_number, .int n_bk])), (b_tests, .inl (k_bi, 16, .inl f_tests)), (b_thing, .inl (k_bi, 48, .inl f_thing)), (b_sign, .inl (k_bi, 48, .inl f_sign)), (b_number, .inl (k_bi, 48, .inl f_number)), (h0, .inr (6, [.ref d_tape, .int w_pr_13, .int n_nu])), (d_tape, .inr (9, [.ref p_bytes, .ref p_ts, .ref p_tc, .int n_ta, .int n_to, .int n_tl])), (p_tc, .inl (k_tc, 600, .inl f_tc))] H at hP
    change va_D A [(b0, .inr (5, [.ref b_deed, .ref b_value, .ref b_tests, .ref b_thing, .ref b_sign, .ref b_number, .int n_bk])), (b_tests, .inl (k_bi, 16, .inl f_tests)), (b_thing, .inl (k_bi, 48, .inl f_thing)), (b_sign, .inl (k_bi, 48, .inl f_sign)), (b_number, .inl (k_bi, 48, .inl f_number)), (h0, .inr (6, [.ref d_tape, .int w_pr_13, .int n_nu])), (d_tape, .inr (9, [.ref p_bytes, .ref p_ts, .ref p_tc, .int n_ta, .int n_to, .int n_tl])), (p_tc, .inl (k_tc, 600, .inl f_tc))] at hD
    rcases h_12 with ⟨rfl, h_12⟩ | ⟨rfl, h_12⟩
    · refine lv_if_ne (tgt := 72) hx hb dX6_readTest_51 (by decide) ?_ (fun c_14 => absurd c_14 (by decide))
      intro _
      refine lv_iconst (v := 1) hx hb dX6_readTest_72 (by decide) ?_
      refine lv_goto (tgt := 77) hx hb dX6_readTest_73 (by decide) ?_
      refine lv_istore (lv' := [(4, .int 1), (3, .int r_9), (2, .int r_1), (0, .ref h0), (1, .ref b0)]) hx hb dX6_readTest_77 hl (by decide) rfl ?_
      clear hl; intro ls hl
      refine lv_iload hx hb dX6_readTest_79 (lv_at hl 0 rfl) ?_
      refine lv_if_eq (tgt := 94) hx hb dX6_readTest_81 (by decide) (fun c_15 => absurd c_15 (by decide)) ?_
      intro _
      refine lv_aload_n hx hb dX6_readTest_84 rfl (lv_at hl 3 rfl) ?_
      refine lv_sipush (v := 9999) hx hb dX6_readTest_85 (by decide) ?_
      have hPc := hP.sub (ws' := [(h0, .inr (6, [.ref d_tape, .int w_pr_13, .int n_nu])), (d_tape, .inr (9, [.ref p_bytes, .ref p_ts, .ref p_tc, .int n_ta, .int n_to, .int n_tl])), (p_tc, .inl (k_tc, 600, .inl f_tc))]) [5, 6, 7] rfl
      have hDc := hD.sub (ws' := [(h0, .inr (6, [.ref d_tape, .int w_pr_13, .int n_nu])), (d_tape, .inr (9, [.ref p_bytes, .ref p_ts, .ref p_tc, .int n_ta, .int n_to, .int n_tl])), (p_tc, .inl (k_tc, 600, .inl f_tc))]) [5, 6, 7] (by decide) rfl
      have hKc := hK.sub (tys' := [(k_tc, .int)]) [0] rfl
      have hFc := va_free (wc := [(h0, .inr (6, [.ref d_tape, .int w_pr_13, .int n_nu])), (d_tape, .inr (9, [.ref p_bytes, .ref p_ts, .ref p_tc, .int n_ta, .int n_to, .int n_tl])), (p_tc, .inl (k_tc, 600, .inl f_tc))]) hD hS hA [5, 6, 7] rfl
      refine va_calli (va_runV (C := RX6) (As := [.int 9999]) (rest := []) ⟨hx, hb, hml, hown, htb⟩ (kX6_takeNumber l dC dI H.size h0 d_tape w_pr_13 n_nu p_bytes p_ts p_tc n_ta n_to n_tl k_tc f_tc 9999 yq) ⟨callB_of 1 htb (gd_c m_934) rfl rfl rfl (htb _ m_11) (htb _ m_931) hdX6_takeNumber ⟨(Nat.le_of_ble_eq_true rfl), (Nat.le_of_ble_eq_true rfl)⟩, htb _ m_933, htb _ ms_26⟩ ⟨pcW_blind, va_recv hKc hPc (ci := 6) (q0 := 0) rfl rfl, pcW_at hPc hKc hDc hN⟩ rfl rfl hl.1 rfl (lv_room (Nat.le_of_ble_eq_true rfl)) dX6_readTest_88 ⟨(Nat.le_of_ble_eq_true rfl), (Nat.le_of_ble_eq_true rfl)⟩) hS (fun q _ h => hFc q h) hFc (fun r_16 u t H1 locs1 ht hvm h_17 hB hz1 hk1 hS1 => ?_)
      obtain ⟨w_pr_18, w_nu_19, hP1, hK1, hD1⟩ := hB
      rw [ht] at hP1
      obtain ⟨hPn, hDn⟩ := va_join (wr := [(b0, .inr (5, [.ref b_deed, .ref b_value, .ref b_tests, .ref b_thing, .ref b_sign, .ref b_number, .int n_bk])), (b_tests, .inl (k_bi, 16, .inl f_tests)), (b_thing, .inl (k_bi, 48, .inl f_thing)), (b_sign, .inl (k_bi, 48, .inl f_sign)), (b_number, .inl (k_bi, 48, .inl f_number))]) (w1 := [(h0, .inr (6, [.ref d_tape, .int w_pr_18, .int w_nu_19])), (d_tape, .inr (9, [.ref p_bytes, .ref p_ts, .ref p_tc, .int n_ta, .int n_to, .int n_tl])), (p_tc, .inl (k_tc, 600, .inl f_tc))]) hP hD [5, 6, 7] [0, 1, 2, 3, 4] rfl rfl (by decide) (by decide) hk1 hFc hP1 hD1
      clear hP1 hD1 hK1
      clear hP hD hS hPc hDc hKc hFc hk1 hz1 ht hvm
      clear t
      revert hS1 hPn hDn; generalize H1 = H; generalize locs1 = locs; intro hS hP hD
      change va_P (dC, dI) vwCl [(b0, .inr (5, [.ref b_deed, .ref b_value, .ref b_tests, .ref b_thing, .ref b_sign, .ref b_number, .int n_bk])), (b_tests, .inl (k_bi, 16, .inl f_tests)), (b_thing, .inl (k_bi, 48, .inl f_thing)), (b_sign, .inl (k_bi, 48, .inl f_sign)), (b_number, .inl (k_bi, 48, .inl f_number)), (h0, .inr (6, [.ref d_tape, .int w_pr_18, .int w_nu_19])), (d_tape, .inr (9, [.ref p_bytes, .ref p_ts, .ref p_tc, .int n_ta, .int n_to, .int n_tl])), (p_tc, .inl (k_tc, 600, .inl f_tc))] H at hP
      change va_D A [(b0, .inr (5, [.ref b_deed, .ref b_value, .ref b_tests, .ref b_thing, .ref b_sign, .ref b_number, .int n_bk])), (b_tests, .inl (k_bi, 16, .inl f_tests)), (b_thing, .inl (k_bi, 48, .inl f_thing)), (b_sign, .inl (k_bi, 48, .inl f_sign)), (b_number, .inl (k_bi, 48, .inl f_number)), (h0, .inr (6, [.ref d_tape, .int w_pr_18, .int w_nu_19])), (d_tape, .inr (9, [.ref p_bytes, .ref p_ts, .ref p_tc, .int n_ta, .int n_to, .int n_tl])), (p_tc, .inl (k_tc, 600, .inl f_tc))] at hD
      rcases h_17 with ⟨rfl, h_17⟩ | ⟨rfl, h_17⟩
      · refine lv_if_ne (tgt := 96) hx hb dX6_readTest_91 (by decide) ?_ (fun c_20 => absurd c_20 (by decide))
        intro _
        refine lv_aload_n hx hb dX6_readTest_96 rfl (lv_at hl 4 rfl) ?_
        refine lv_iload_n hx hb dX6_readTest_97 rfl (lv_at hl 2 rfl) ?_
        refine lv_iload_n hx hb dX6_readTest_98 rfl (lv_at hl 1 rfl) ?_
        refine lv_aload_n hx hb dX6_readTest_99 rfl (lv_at hl 3 rfl) ?_
        refine va_get (D := (dC, dI)) (ci := 6) (v := .int w_nu_19) (C := RX6) (T := TX6) (N := 3) hx hb htb iX6 hown hK hP 5 rfl rfl 2 (Nat.le_of_ble_eq_true rfl) (htb _ m_265) (fun _ h9 => h9) rfl dX6_readTest_100 ?_
        have hPc := hP.sub (ws' := [(b0, .inr (5, [.ref b_deed, .ref b_value, .ref b_tests, .ref b_thing, .ref b_sign, .ref b_number, .int n_bk])), (b_tests, .inl (k_bi, 16, .inl f_tests)), (b_thing, .inl (k_bi, 48, .inl f_thing)), (b_sign, .inl (k_bi, 48, .inl f_sign)), (b_number, .inl (k_bi, 48, .inl f_number))]) [0, 1, 2, 3, 4] rfl
        have hDc := hD.sub (ws' := [(b0, .inr (5, [.ref b_deed, .ref b_value, .ref b_tests, .ref b_thing, .ref b_sign, .ref b_number, .int n_bk])), (b_tests, .inl (k_bi, 16, .inl f_tests)), (b_thing, .inl (k_bi, 48, .inl f_thing)), (b_sign, .inl (k_bi, 48, .inl f_sign)), (b_number, .inl (k_bi, 48, .inl f_number))]) [0, 1, 2, 3, 4] (by decide) rfl
        have hKc := hK.sub (tys' := [(k_bi, .int), (k_bi, .int), (k_bi, .int), (k_bi, .int)]) [1, 1, 1, 1] rfl
        have hFc := va_free (wc := [(b0, .inr (5, [.ref b_deed, .ref b_value, .ref b_tests, .ref b_thing, .ref b_sign, .ref b_number, .int n_bk])), (b_tests, .inl (k_bi, 16, .inl f_tests)), (b_thing, .inl (k_bi, 48, .inl f_thing)), (b_sign, .inl (k_bi, 48, .inl f_sign)), (b_number, .inl (k_bi, 48, .inl f_number))]) hD hS hA [0, 1, 2, 3, 4] rfl
        refine va_callv (va_runV (C := RX5) (As := [.int r_1, .int r_9, .int w_nu_19]) (rest := []) ⟨hx, hb, hml, hown, htb⟩ (kX5_addTest l dC dI H.size b0 b_deed b_value b_tests b_thing b_sign b_number n_bk k_bi k_bi k_bi k_bi f_tests f_thing f_sign f_number r_1 r_9 w_nu_19 yk yt) ⟨callB_of 3 htb (gd_c m_951) rfl rfl rfl (htb _ m_12) (htb _ m_948) hdX5_addTest ⟨(Nat.le_of_ble_eq_true rfl), (Nat.le_of_ble_eq_true rfl)⟩, htb _ m_949, htb _ m_950⟩ ⟨pcW_blind, va_recv hKc hPc (ci := 5) (q0 := 0) rfl rfl, pcW_at hPc hKc hDc hN⟩ rfl rfl hl.1 rfl (lv_room (Nat.le_of_ble_eq_true rfl)) dX6_readTest_103 ⟨(Nat.le_of_ble_eq_true rfl), (Nat.le_of_ble_eq_true rfl)⟩) hS (fun q _ h => hFc q h) hFc (fun u t H1 locs1 ht hvm h_22 hB hz1 hk1 hS1 => ?_)
        obtain ⟨w_tests_23, w_thing_24, w_sign_25, w_number_26, e_27, hP1, hK1, hD1⟩ := hB
        rw [ht] at hP1
        obtain ⟨hPn, hDn⟩ := va_join (wr := [(h0, .inr (6, [.ref d_tape, .int w_pr_18, .int w_nu_19])), (d_tape, .inr (9, [.ref p_bytes, .ref p_ts, .ref p_tc, .int n_ta, .int n_to, .int n_tl])), (p_tc, .inl (k_tc, 600, .inl f_tc))]) (w1 := [(b0, .inr (5, [.ref b_deed, .ref b_value, .ref b_tests, .ref b_thing, .ref b_sign, .ref b_number, .int n_bk])), (b_tests, .inl (k_bi, 16, .inl w_tests_23)), (b_thing, .inl (k_bi, 48, .inl w_thing_24)), (b_sign, .inl (k_bi, 48, .inl w_sign_25)), (b_number, .inl (k_bi, 48, .inl w_number_26))]) hP hD [0, 1, 2, 3, 4] [5, 6, 7] rfl rfl (by decide) (by decide) hk1 hFc hP1 hD1
        clear hP1 hD1 hK1
        clear hP hD hS hPc hDc hKc hFc hk1 hz1 ht hvm
        clear t
        revert hS1 hPn hDn; generalize H1 = H; generalize locs1 = locs; intro hS hP hD
        change va_P (dC, dI) vwCl [(h0, .inr (6, [.ref d_tape, .int w_pr_18, .int w_nu_19])), (d_tape, .inr (9, [.ref p_bytes, .ref p_ts, .ref p_tc, .int n_ta, .int n_to, .int n_tl])), (p_tc, .inl (k_tc, 600, .inl f_tc)), (b0, .inr (5, [.ref b_deed, .ref b_value, .ref b_tests, .ref b_thing, .ref b_sign, .ref b_number, .int n_bk])), (b_tests, .inl (k_bi, 16, .inl w_tests_23)), (b_thing, .inl (k_bi, 48, .inl w_thing_24)), (b_sign, .inl (k_bi, 48, .inl w_sign_25)), (b_number, .inl (k_bi, 48, .inl w_number_26))] H at hP
        change va_D A [(h0, .inr (6, [.ref d_tape, .int w_pr_18, .int w_nu_19])), (d_tape, .inr (9, [.ref p_bytes, .ref p_ts, .ref p_tc, .int n_ta, .int n_to, .int n_tl])), (p_tc, .inl (k_tc, 600, .inl f_tc)), (b0, .inr (5, [.ref b_deed, .ref b_value, .ref b_tests, .ref b_thing, .ref b_sign, .ref b_number, .int n_bk])), (b_tests, .inl (k_bi, 16, .inl w_tests_23)), (b_thing, .inl (k_bi, 48, .inl w_thing_24)), (b_sign, .inl (k_bi, 48, .inl w_sign_25)), (b_number, .inl (k_bi, 48, .inl w_number_26))] at hD
        refine lv_iconst (v := 1) hx hb dX6_readTest_106 (by decide) ?_
        refine W.widen (k := 0) (n := 0) (Nat.le_of_ble_eq_true rfl) (Nat.le_of_ble_eq_true rfl) ?_
        have hP9 := hP.sub (ws' := [(h0, .inr (6, [.ref d_tape, .int w_pr_18, .int w_nu_19])), (d_tape, .inr (9, [.ref p_bytes, .ref p_ts, .ref p_tc, .int n_ta, .int n_to, .int n_tl])), (p_tc, .inl (k_tc, 600, .inl f_tc)), (b0, .inr (5, [.ref b_deed, .ref b_value, .ref b_tests, .ref b_thing, .ref b_sign, .ref b_number, .int n_bk])), (b_tests, .inl (k_bi, 16, .inl w_tests_23)), (b_thing, .inl (k_bi, 48, .inl w_thing_24)), (b_sign, .inl (k_bi, 48, .inl w_sign_25)), (b_number, .inl (k_bi, 48, .inl w_number_26))]) [0, 1, 2, 3, 4, 5, 6, 7] rfl
        have hD9 := hD.sub (ws' := [(h0, .inr (6, [.ref d_tape, .int w_pr_18, .int w_nu_19])), (d_tape, .inr (9, [.ref p_bytes, .ref p_ts, .ref p_tc, .int n_ta, .int n_to, .int n_tl])), (p_tc, .inl (k_tc, 600, .inl f_tc)), (b0, .inr (5, [.ref b_deed, .ref b_value, .ref b_tests, .ref b_thing, .ref b_sign, .ref b_number, .int n_bk])), (b_tests, .inl (k_bi, 16, .inl w_tests_23)), (b_thing, .inl (k_bi, 48, .inl w_thing_24)), (b_sign, .inl (k_bi, 48, .inl w_sign_25)), (b_number, .inl (k_bi, 48, .inl w_number_26))]) [0, 1, 2, 3, 4, 5, 6, 7] (by decide) rfl
        have hK9 := hK.sub (tys' := []) [] rfl
        exact W.zret (ty := .boolean) (v := 1) hx hb hr rfl (fun t ht hW => ⟨⟨1, (), rfl, (Or.inl ⟨rfl, (lg_X6_readTest_0 n_ta n_to n_tl n_bk r_1 yq yk h_2 h_4 h_10 h_12 h_17)⟩), ⟨w_pr_18, w_nu_19, w_tests_23, w_thing_24, w_sign_25, w_number_26, e_27, by rw [ht]; exact hP9, va_K.moved hW.alike hK9, hD9⟩⟩, hS.F ht⟩) hS.2.2 dX6_readTest_107
      · refine lv_if_ne (tgt := 96) hx hb dX6_readTest_91 (by decide) (fun c_28 => absurd (by decide) c_28) ?_
        intro _
        refine lv_iconst (v := 0) hx hb dX6_readTest_94 (by decide) ?_
        refine W.widen (k := 0) (n := 0) (Nat.le_of_ble_eq_true rfl) (Nat.le_of_ble_eq_true rfl) ?_
        have hP9 := hP.sub (ws' := [(h0, .inr (6, [.ref d_tape, .int w_pr_18, .int w_nu_19])), (d_tape, .inr (9, [.ref p_bytes, .ref p_ts, .ref p_tc, .int n_ta, .int n_to, .int n_tl])), (p_tc, .inl (k_tc, 600, .inl f_tc)), (b0, .inr (5, [.ref b_deed, .ref b_value, .ref b_tests, .ref b_thing, .ref b_sign, .ref b_number, .int n_bk])), (b_tests, .inl (k_bi, 16, .inl f_tests)), (b_thing, .inl (k_bi, 48, .inl f_thing)), (b_sign, .inl (k_bi, 48, .inl f_sign)), (b_number, .inl (k_bi, 48, .inl f_number))]) [5, 6, 7, 0, 1, 2, 3, 4] rfl
        have hD9 := hD.sub (ws' := [(h0, .inr (6, [.ref d_tape, .int w_pr_18, .int w_nu_19])), (d_tape, .inr (9, [.ref p_bytes, .ref p_ts, .ref p_tc, .int n_ta, .int n_to, .int n_tl])), (p_tc, .inl (k_tc, 600, .inl f_tc)), (b0, .inr (5, [.ref b_deed, .ref b_value, .ref b_tests, .ref b_thing, .ref b_sign, .ref b_number, .int n_bk])), (b_tests, .inl (k_bi, 16, .inl f_tests)), (b_thing, .inl (k_bi, 48, .inl f_thing)), (b_sign, .inl (k_bi, 48, .inl f_sign)), (b_number, .inl (k_bi, 48, .inl f_number))]) [5, 6, 7, 0, 1, 2, 3, 4] (by decide) rfl
        have hK9 := hK.sub (tys' := []) [] rfl
        exact W.zret (ty := .boolean) (v := 0) hx hb hr rfl (fun t ht hW => ⟨⟨0, (), rfl, (Or.inr (⟨rfl, (lg_X6_readTest_0 n_ta n_to n_tl n_bk r_1 yq yk h_2 h_4 h_10 h_12 h_17)⟩)), ⟨w_pr_18, w_nu_19, f_tests, f_thing, f_sign, f_number, yt, by rw [ht]; exact hP9, va_K.moved hW.alike hK9, hD9⟩⟩, hS.F ht⟩) hS.2.2 dX6_readTest_95
    · refine lv_if_ne (tgt := 72) hx hb dX6_readTest_51 (by decide) (fun c_29 => absurd (by decide) c_29) ?_
      intro _
      refine lv_aload_n hx hb dX6_readTest_54 rfl (lv_at hl 2 rfl) ?_
      refine lv_bipush (v := 62) hx hb dX6_readTest_55 (by decide) ?_
      have hPc := hP.sub (ws' := [(h0, .inr (6, [.ref d_tape, .int w_pr_13, .int n_nu])), (d_tape, .inr (9, [.ref p_bytes, .ref p_ts, .ref p_tc, .int n_ta, .int n_to, .int n_tl])), (p_tc, .inl (k_tc, 600, .inl f_tc))]) [5, 6, 7] rfl
      have hDc := hD.sub (ws' := [(h0, .inr (6, [.ref d_tape, .int w_pr_13, .int n_nu])), (d_tape, .inr (9, [.ref p_bytes, .ref p_ts, .ref p_tc, .int n_ta, .int n_to, .int n_tl])), (p_tc, .inl (k_tc, 600, .inl f_tc))]) [5, 6, 7] (by decide) rfl
      have hKc := hK.sub (tys' := [(k_tc, .int)]) [0] rfl
      have hFc := va_free (wc := [(h0, .inr (6, [.ref d_tape, .int w_pr_13, .int n_nu])), (d_tape, .inr (9, [.ref p_bytes, .ref p_ts, .ref p_tc, .int n_ta, .int n_to, .int n_tl])), (p_tc, .inl (k_tc, 600, .inl f_tc))]) hD hS hA [5, 6, 7] rfl
      refine va_calli (va_runV (C := RX6) (As := [.int 62]) (rest := []) ⟨hx, hb, hml, hown, htb⟩ (kX6_take l dC dI H.size h0 d_tape w_pr_13 n_nu p_bytes p_ts p_tc n_ta n_to n_tl k_tc f_tc 62 yq) ⟨callB_of 1 htb (gd_c m_922) rfl rfl rfl (htb _ m_11) (htb _ m_919) hdX6_take ⟨(Nat.le_of_ble_eq_true rfl), (Nat.le_of_ble_eq_true rfl)⟩, htb _ m_921, htb _ ms_24⟩ ⟨pcW_blind, va_recv hKc hPc (ci := 6) (q0 := 0) rfl rfl, pcW_at hPc hKc hDc hN⟩ rfl rfl hl.1 rfl (lv_room (Nat.le_of_ble_eq_true rfl)) dX6_readTest_57 ⟨(Nat.le_of_ble_eq_true rfl), (Nat.le_of_ble_eq_true rfl)⟩) hS (fun q _ h => hFc q h) hFc (fun r_30 u t H1 locs1 ht hvm h_31 hB hz1 hk1 hS1 => ?_)
      obtain ⟨w_pr_32, hP1, hK1, hD1⟩ := hB
      rw [ht] at hP1
      obtain ⟨hPn, hDn⟩ := va_join (wr := [(b0, .inr (5, [.ref b_deed, .ref b_value, .ref b_tests, .ref b_thing, .ref b_sign, .ref b_number, .int n_bk])), (b_tests, .inl (k_bi, 16, .inl f_tests)), (b_thing, .inl (k_bi, 48, .inl f_thing)), (b_sign, .inl (k_bi, 48, .inl f_sign)), (b_number, .inl (k_bi, 48, .inl f_number))]) (w1 := [(h0, .inr (6, [.ref d_tape, .int w_pr_32, .int n_nu])), (d_tape, .inr (9, [.ref p_bytes, .ref p_ts, .ref p_tc, .int n_ta, .int n_to, .int n_tl])), (p_tc, .inl (k_tc, 600, .inl f_tc))]) hP hD [5, 6, 7] [0, 1, 2, 3, 4] rfl rfl (by decide) (by decide) hk1 hFc hP1 hD1
      clear hP1 hD1 hK1
      clear hP hD hS hPc hDc hKc hFc hk1 hz1 ht hvm
      clear t
      revert hS1 hPn hDn; generalize H1 = H; generalize locs1 = locs; intro hS hP hD
      change va_P (dC, dI) vwCl [(b0, .inr (5, [.ref b_deed, .ref b_value, .ref b_tests, .ref b_thing, .ref b_sign, .ref b_number, .int n_bk])), (b_tests, .inl (k_bi, 16, .inl f_tests)), (b_thing, .inl (k_bi, 48, .inl f_thing)), (b_sign, .inl (k_bi, 48, .inl f_sign)), (b_number, .inl (k_bi, 48, .inl f_number)), (h0, .inr (6, [.ref d_tape, .int w_pr_32, .int n_nu])), (d_tape, .inr (9, [.ref p_bytes, .ref p_ts, .ref p_tc, .int n_ta, .int n_to, .int n_tl])), (p_tc, .inl (k_tc, 600, .inl f_tc))] H at hP
      change va_D A [(b0, .inr (5, [.ref b_deed, .ref b_value, .ref b_tests, .ref b_thing, .ref b_sign, .ref b_number, .int n_bk])), (b_tests, .inl (k_bi, 16, .inl f_tests)), (b_thing, .inl (k_bi, 48, .inl f_thing)), (b_sign, .inl (k_bi, 48, .inl f_sign)), (b_number, .inl (k_bi, 48, .inl f_number)), (h0, .inr (6, [.ref d_tape, .int w_pr_32, .int n_nu])), (d_tape, .inr (9, [.ref p_bytes, .ref p_ts, .ref p_tc, .int n_ta, .int n_to, .int n_tl])), (p_tc, .inl (k_tc, 600, .inl f_tc))] at hD
      rcases h_31 with ⟨rfl, h_31⟩ | ⟨rfl, h_31⟩
      · refine lv_if_ne (tgt := 72) hx hb dX6_readTest_60 (by decide) ?_ (fun c_33 => absurd c_33 (by decide))
        intro _
        refine lv_iconst (v := 1) hx hb dX6_readTest_72 (by decide) ?_
        refine lv_goto (tgt := 77) hx hb dX6_readTest_73 (by decide) ?_
        refine lv_istore (lv' := [(4, .int 1), (3, .int r_9), (2, .int r_1), (0, .ref h0), (1, .ref b0)]) hx hb dX6_readTest_77 hl (by decide) rfl ?_
        clear hl; intro ls hl
        refine lv_iload hx hb dX6_readTest_79 (lv_at hl 0 rfl) ?_
        refine lv_if_eq (tgt := 94) hx hb dX6_readTest_81 (by decide) (fun c_34 => absurd c_34 (by decide)) ?_
        intro _
        refine lv_aload_n hx hb dX6_readTest_84 rfl (lv_at hl 3 rfl) ?_
        refine lv_sipush (v := 9999) hx hb dX6_readTest_85 (by decide) ?_
        have hPc := hP.sub (ws' := [(h0, .inr (6, [.ref d_tape, .int w_pr_32, .int n_nu])), (d_tape, .inr (9, [.ref p_bytes, .ref p_ts, .ref p_tc, .int n_ta, .int n_to, .int n_tl])), (p_tc, .inl (k_tc, 600, .inl f_tc))]) [5, 6, 7] rfl
        have hDc := hD.sub (ws' := [(h0, .inr (6, [.ref d_tape, .int w_pr_32, .int n_nu])), (d_tape, .inr (9, [.ref p_bytes, .ref p_ts, .ref p_tc, .int n_ta, .int n_to, .int n_tl])), (p_tc, .inl (k_tc, 600, .inl f_tc))]) [5, 6, 7] (by decide) rfl
        have hKc := hK.sub (tys' := [(k_tc, .int)]) [0] rfl
        have hFc := va_free (wc := [(h0, .inr (6, [.ref d_tape, .int w_pr_32, .int n_nu])), (d_tape, .inr (9, [.ref p_bytes, .ref p_ts, .ref p_tc, .int n_ta, .int n_to, .int n_tl])), (p_tc, .inl (k_tc, 600, .inl f_tc))]) hD hS hA [5, 6, 7] rfl
        refine va_calli (va_runV (C := RX6) (As := [.int 9999]) (rest := []) ⟨hx, hb, hml, hown, htb⟩ (kX6_takeNumber l dC dI H.size h0 d_tape w_pr_32 n_nu p_bytes p_ts p_tc n_ta n_to n_tl k_tc f_tc 9999 yq) ⟨callB_of 1 htb (gd_c m_934) rfl rfl rfl (htb _ m_11) (htb _ m_931) hdX6_takeNumber ⟨(Nat.le_of_ble_eq_true rfl), (Nat.le_of_ble_eq_true rfl)⟩, htb _ m_933, htb _ ms_26⟩ ⟨pcW_blind, va_recv hKc hPc (ci := 6) (q0 := 0) rfl rfl, pcW_at hPc hKc hDc hN⟩ rfl rfl hl.1 rfl (lv_room (Nat.le_of_ble_eq_true rfl)) dX6_readTest_88 ⟨(Nat.le_of_ble_eq_true rfl), (Nat.le_of_ble_eq_true rfl)⟩) hS (fun q _ h => hFc q h) hFc (fun r_35 u t H1 locs1 ht hvm h_36 hB hz1 hk1 hS1 => ?_)
        obtain ⟨w_pr_37, w_nu_38, hP1, hK1, hD1⟩ := hB
        rw [ht] at hP1
        obtain ⟨hPn, hDn⟩ := va_join (wr := [(b0, .inr (5, [.ref b_deed, .ref b_value, .ref b_tests, .ref b_thing, .ref b_sign, .ref b_number, .int n_bk])), (b_tests, .inl (k_bi, 16, .inl f_tests)), (b_thing, .inl (k_bi, 48, .inl f_thing)), (b_sign, .inl (k_bi, 48, .inl f_sign)), (b_number, .inl (k_bi, 48, .inl f_number))]) (w1 := [(h0, .inr (6, [.ref d_tape, .int w_pr_37, .int w_nu_38])), (d_tape, .inr (9, [.ref p_bytes, .ref p_ts, .ref p_tc, .int n_ta, .int n_to, .int n_tl])), (p_tc, .inl (k_tc, 600, .inl f_tc))]) hP hD [5, 6, 7] [0, 1, 2, 3, 4] rfl rfl (by decide) (by decide) hk1 hFc hP1 hD1
        clear hP1 hD1 hK1
        clear hP hD hS hPc hDc hKc hFc hk1 hz1 ht hvm
        clear t
        revert hS1 hPn hDn; generalize H1 = H; generalize locs1 = locs; intro hS hP hD
        change va_P (dC, dI) vwCl [(b0, .inr (5, [.ref b_deed, .ref b_value, .ref b_tests, .ref b_thing, .ref b_sign, .ref b_number, .int n_bk])), (b_tests, .inl (k_bi, 16, .inl f_tests)), (b_thing, .inl (k_bi, 48, .inl f_thing)), (b_sign, .inl (k_bi, 48, .inl f_sign)), (b_number, .inl (k_bi, 48, .inl f_number)), (h0, .inr (6, [.ref d_tape, .int w_pr_37, .int w_nu_38])), (d_tape, .inr (9, [.ref p_bytes, .ref p_ts, .ref p_tc, .int n_ta, .int n_to, .int n_tl])), (p_tc, .inl (k_tc, 600, .inl f_tc))] H at hP
        change va_D A [(b0, .inr (5, [.ref b_deed, .ref b_value, .ref b_tests, .ref b_thing, .ref b_sign, .ref b_number, .int n_bk])), (b_tests, .inl (k_bi, 16, .inl f_tests)), (b_thing, .inl (k_bi, 48, .inl f_thing)), (b_sign, .inl (k_bi, 48, .inl f_sign)), (b_number, .inl (k_bi, 48, .inl f_number)), (h0, .inr (6, [.ref d_tape, .int w_pr_37, .int w_nu_38])), (d_tape, .inr (9, [.ref p_bytes, .ref p_ts, .ref p_tc, .int n_ta, .int n_to, .int n_tl])), (p_tc, .inl (k_tc, 600, .inl f_tc))] at hD
        rcases h_36 with ⟨rfl, h_36⟩ | ⟨rfl, h_36⟩
        · refine lv_if_ne (tgt := 96) hx hb dX6_readTest_91 (by decide) ?_ (fun c_39 => absurd c_39 (by decide))
          intro _
          refine lv_aload_n hx hb dX6_readTest_96 rfl (lv_at hl 4 rfl) ?_
          refine lv_iload_n hx hb dX6_readTest_97 rfl (lv_at hl 2 rfl) ?_
          refine lv_iload_n hx hb dX6_readTest_98 rfl (lv_at hl 1 rfl) ?_
          refine lv_aload_n hx hb dX6_readTest_99 rfl (lv_at hl 3 rfl) ?_
          refine va_get (D := (dC, dI)) (ci := 6) (v := .int w_nu_38) (C := RX6) (T := TX6) (N := 3) hx hb htb iX6 hown hK hP 5 rfl rfl 2 (Nat.le_of_ble_eq_true rfl) (htb _ m_265) (fun _ h9 => h9) rfl dX6_readTest_100 ?_
          have hPc := hP.sub (ws' := [(b0, .inr (5, [.ref b_deed, .ref b_value, .ref b_tests, .ref b_thing, .ref b_sign, .ref b_number, .int n_bk])), (b_tests, .inl (k_bi, 16, .inl f_tests)), (b_thing, .inl (k_bi, 48, .inl f_thing)), (b_sign, .inl (k_bi, 48, .inl f_sign)), (b_number, .inl (k_bi, 48, .inl f_number))]) [0, 1, 2, 3, 4] rfl
          have hDc := hD.sub (ws' := [(b0, .inr (5, [.ref b_deed, .ref b_value, .ref b_tests, .ref b_thing, .ref b_sign, .ref b_number, .int n_bk])), (b_tests, .inl (k_bi, 16, .inl f_tests)), (b_thing, .inl (k_bi, 48, .inl f_thing)), (b_sign, .inl (k_bi, 48, .inl f_sign)), (b_number, .inl (k_bi, 48, .inl f_number))]) [0, 1, 2, 3, 4] (by decide) rfl
          have hKc := hK.sub (tys' := [(k_bi, .int), (k_bi, .int), (k_bi, .int), (k_bi, .int)]) [1, 1, 1, 1] rfl
          have hFc := va_free (wc := [(b0, .inr (5, [.ref b_deed, .ref b_value, .ref b_tests, .ref b_thing, .ref b_sign, .ref b_number, .int n_bk])), (b_tests, .inl (k_bi, 16, .inl f_tests)), (b_thing, .inl (k_bi, 48, .inl f_thing)), (b_sign, .inl (k_bi, 48, .inl f_sign)), (b_number, .inl (k_bi, 48, .inl f_number))]) hD hS hA [0, 1, 2, 3, 4] rfl
          refine va_callv (va_runV (C := RX5) (As := [.int r_1, .int r_9, .int w_nu_38]) (rest := []) ⟨hx, hb, hml, hown, htb⟩ (kX5_addTest l dC dI H.size b0 b_deed b_value b_tests b_thing b_sign b_number n_bk k_bi k_bi k_bi k_bi f_tests f_thing f_sign f_number r_1 r_9 w_nu_38 yk yt) ⟨callB_of 3 htb (gd_c m_951) rfl rfl rfl (htb _ m_12) (htb _ m_948) hdX5_addTest ⟨(Nat.le_of_ble_eq_true rfl), (Nat.le_of_ble_eq_true rfl)⟩, htb _ m_949, htb _ m_950⟩ ⟨pcW_blind, va_recv hKc hPc (ci := 5) (q0 := 0) rfl rfl, pcW_at hPc hKc hDc hN⟩ rfl rfl hl.1 rfl (lv_room (Nat.le_of_ble_eq_true rfl)) dX6_readTest_103 ⟨(Nat.le_of_ble_eq_true rfl), (Nat.le_of_ble_eq_true rfl)⟩) hS (fun q _ h => hFc q h) hFc (fun u t H1 locs1 ht hvm h_41 hB hz1 hk1 hS1 => ?_)
          obtain ⟨w_tests_42, w_thing_43, w_sign_44, w_number_45, e_46, hP1, hK1, hD1⟩ := hB
          rw [ht] at hP1
          obtain ⟨hPn, hDn⟩ := va_join (wr := [(h0, .inr (6, [.ref d_tape, .int w_pr_37, .int w_nu_38])), (d_tape, .inr (9, [.ref p_bytes, .ref p_ts, .ref p_tc, .int n_ta, .int n_to, .int n_tl])), (p_tc, .inl (k_tc, 600, .inl f_tc))]) (w1 := [(b0, .inr (5, [.ref b_deed, .ref b_value, .ref b_tests, .ref b_thing, .ref b_sign, .ref b_number, .int n_bk])), (b_tests, .inl (k_bi, 16, .inl w_tests_42)), (b_thing, .inl (k_bi, 48, .inl w_thing_43)), (b_sign, .inl (k_bi, 48, .inl w_sign_44)), (b_number, .inl (k_bi, 48, .inl w_number_45))]) hP hD [0, 1, 2, 3, 4] [5, 6, 7] rfl rfl (by decide) (by decide) hk1 hFc hP1 hD1
          clear hP1 hD1 hK1
          clear hP hD hS hPc hDc hKc hFc hk1 hz1 ht hvm
          clear t
          revert hS1 hPn hDn; generalize H1 = H; generalize locs1 = locs; intro hS hP hD
          change va_P (dC, dI) vwCl [(h0, .inr (6, [.ref d_tape, .int w_pr_37, .int w_nu_38])), (d_tape, .inr (9, [.ref p_bytes, .ref p_ts, .ref p_tc, .int n_ta, .int n_to, .int n_tl])), (p_tc, .inl (k_tc, 600, .inl f_tc)), (b0, .inr (5, [.ref b_deed, .ref b_value, .ref b_tests, .ref b_thing, .ref b_sign, .ref b_number, .int n_bk])), (b_tests, .inl (k_bi, 16, .inl w_tests_42)), (b_thing, .inl (k_bi, 48, .inl w_thing_43)), (b_sign, .inl (k_bi, 48, .inl w_sign_44)), (b_number, .inl (k_bi, 48, .inl w_number_45))] H at hP
          change va_D A [(h0, .inr (6, [.ref d_tape, .int w_pr_37, .int w_nu_38])), (d_tape, .inr (9, [.ref p_bytes, .ref p_ts, .ref p_tc, .int n_ta, .int n_to, .int n_tl])), (p_tc, .inl (k_tc, 600, .inl f_tc)), (b0, .inr (5, [.ref b_deed, .ref b_value, .ref b_tests, .ref b_thing, .ref b_sign, .ref b_number, .int n_bk])), (b_tests, .inl (k_bi, 16, .inl w_tests_42)), (b_thing, .inl (k_bi, 48, .inl w_thing_43)), (b_sign, .inl (k_bi, 48, .inl w_sign_44)), (b_number, .inl (k_bi, 48, .inl w_number_45))] at hD
          refine lv_iconst (v := 1) hx hb dX6_readTest_106 (by decide) ?_
          refine W.widen (k := 0) (n := 0) (Nat.le_of_ble_eq_true rfl) (Nat.le_of_ble_eq_true rfl) ?_
          have hP9 := hP.sub (ws' := [(h0, .inr (6, [.ref d_tape, .int w_pr_37, .int w_nu_38])), (d_tape, .inr (9, [.ref p_bytes, .ref p_ts, .ref p_tc, .int n_ta, .int n_to, .int n_tl])), (p_tc, .inl (k_tc, 600, .inl f_tc)), (b0, .inr (5, [.ref b_deed, .ref b_value, .ref b_tests, .ref b_thing, .ref b_sign, .ref b_number, .int n_bk])), (b_tests, .inl (k_bi, 16, .inl w_tests_42)), (b_thing, .inl (k_bi, 48, .inl w_thing_43)), (b_sign, .inl (k_bi, 48, .inl w_sign_44)), (b_number, .inl (k_bi, 48, .inl w_number_45))]) [0, 1, 2, 3, 4, 5, 6, 7] rfl
          have hD9 := hD.sub (ws' := [(h0, .inr (6, [.ref d_tape, .int w_pr_37, .int w_nu_38])), (d_tape, .inr (9, [.ref p_bytes, .ref p_ts, .ref p_tc, .int n_ta, .int n_to, .int n_tl])), (p_tc, .inl (k_tc, 600, .inl f_tc)), (b0, .inr (5, [.ref b_deed, .ref b_value, .ref b_tests, .ref b_thing, .ref b_sign, .ref b_number, .int n_bk])), (b_tests, .inl (k_bi, 16, .inl w_tests_42)), (b_thing, .inl (k_bi, 48, .inl w_thing_43)), (b_sign, .inl (k_bi, 48, .inl w_sign_44)), (b_number, .inl (k_bi, 48, .inl w_number_45))]) [0, 1, 2, 3, 4, 5, 6, 7] (by decide) rfl
          have hK9 := hK.sub (tys' := []) [] rfl
          exact W.zret (ty := .boolean) (v := 1) hx hb hr rfl (fun t ht hW => ⟨⟨1, (), rfl, (Or.inl ⟨rfl, (lg_X6_readTest_1 n_ta n_to n_tl n_bk r_1 yq yk h_2 h_4 h_10 h_12 h_31 h_36)⟩), ⟨w_pr_37, w_nu_38, w_tests_42, w_thing_43, w_sign_44, w_number_45, e_46, by rw [ht]; exact hP9, va_K.moved hW.alike hK9, hD9⟩⟩, hS.F ht⟩) hS.2.2 dX6_readTest_107
        · refine lv_if_ne (tgt := 96) hx hb dX6_readTest_91 (by decide) (fun c_47 => absurd (by decide) c_47) ?_
          intro _
          refine lv_iconst (v := 0) hx hb dX6_readTest_94 (by decide) ?_
          refine W.widen (k := 0) (n := 0) (Nat.le_of_ble_eq_true rfl) (Nat.le_of_ble_eq_true rfl) ?_
          have hP9 := hP.sub (ws' := [(h0, .inr (6, [.ref d_tape, .int w_pr_37, .int w_nu_38])), (d_tape, .inr (9, [.ref p_bytes, .ref p_ts, .ref p_tc, .int n_ta, .int n_to, .int n_tl])), (p_tc, .inl (k_tc, 600, .inl f_tc)), (b0, .inr (5, [.ref b_deed, .ref b_value, .ref b_tests, .ref b_thing, .ref b_sign, .ref b_number, .int n_bk])), (b_tests, .inl (k_bi, 16, .inl f_tests)), (b_thing, .inl (k_bi, 48, .inl f_thing)), (b_sign, .inl (k_bi, 48, .inl f_sign)), (b_number, .inl (k_bi, 48, .inl f_number))]) [5, 6, 7, 0, 1, 2, 3, 4] rfl
          have hD9 := hD.sub (ws' := [(h0, .inr (6, [.ref d_tape, .int w_pr_37, .int w_nu_38])), (d_tape, .inr (9, [.ref p_bytes, .ref p_ts, .ref p_tc, .int n_ta, .int n_to, .int n_tl])), (p_tc, .inl (k_tc, 600, .inl f_tc)), (b0, .inr (5, [.ref b_deed, .ref b_value, .ref b_tests, .ref b_thing, .ref b_sign, .ref b_number, .int n_bk])), (b_tests, .inl (k_bi, 16, .inl f_tests)), (b_thing, .inl (k_bi, 48, .inl f_thing)), (b_sign, .inl (k_bi, 48, .inl f_sign)), (b_number, .inl (k_bi, 48, .inl f_number))]) [5, 6, 7, 0, 1, 2, 3, 4] (by decide) rfl
          have hK9 := hK.sub (tys' := []) [] rfl
          exact W.zret (ty := .boolean) (v := 0) hx hb hr rfl (fun t ht hW => ⟨⟨0, (), rfl, (Or.inr (⟨rfl, (lg_X6_readTest_1 n_ta n_to n_tl n_bk r_1 yq yk h_2 h_4 h_10 h_12 h_31 h_36)⟩)), ⟨w_pr_37, w_nu_38, f_tests, f_thing, f_sign, f_number, yt, by rw [ht]; exact hP9, va_K.moved hW.alike hK9, hD9⟩⟩, hS.F ht⟩) hS.2.2 dX6_readTest_95
      · refine lv_if_ne (tgt := 72) hx hb dX6_readTest_60 (by decide) (fun c_48 => absurd (by decide) c_48) ?_
        intro _
        refine lv_aload_n hx hb dX6_readTest_63 rfl (lv_at hl 2 rfl) ?_
        refine lv_bipush (v := 61) hx hb dX6_readTest_64 (by decide) ?_
        have hPc := hP.sub (ws' := [(h0, .inr (6, [.ref d_tape, .int w_pr_32, .int n_nu])), (d_tape, .inr (9, [.ref p_bytes, .ref p_ts, .ref p_tc, .int n_ta, .int n_to, .int n_tl])), (p_tc, .inl (k_tc, 600, .inl f_tc))]) [5, 6, 7] rfl
        have hDc := hD.sub (ws' := [(h0, .inr (6, [.ref d_tape, .int w_pr_32, .int n_nu])), (d_tape, .inr (9, [.ref p_bytes, .ref p_ts, .ref p_tc, .int n_ta, .int n_to, .int n_tl])), (p_tc, .inl (k_tc, 600, .inl f_tc))]) [5, 6, 7] (by decide) rfl
        have hKc := hK.sub (tys' := [(k_tc, .int)]) [0] rfl
        have hFc := va_free (wc := [(h0, .inr (6, [.ref d_tape, .int w_pr_32, .int n_nu])), (d_tape, .inr (9, [.ref p_bytes, .ref p_ts, .ref p_tc, .int n_ta, .int n_to, .int n_tl])), (p_tc, .inl (k_tc, 600, .inl f_tc))]) hD hS hA [5, 6, 7] rfl
        refine va_calli (va_runV (C := RX6) (As := [.int 61]) (rest := []) ⟨hx, hb, hml, hown, htb⟩ (kX6_take l dC dI H.size h0 d_tape w_pr_32 n_nu p_bytes p_ts p_tc n_ta n_to n_tl k_tc f_tc 61 yq) ⟨callB_of 1 htb (gd_c m_922) rfl rfl rfl (htb _ m_11) (htb _ m_919) hdX6_take ⟨(Nat.le_of_ble_eq_true rfl), (Nat.le_of_ble_eq_true rfl)⟩, htb _ m_921, htb _ ms_24⟩ ⟨pcW_blind, va_recv hKc hPc (ci := 6) (q0 := 0) rfl rfl, pcW_at hPc hKc hDc hN⟩ rfl rfl hl.1 rfl (lv_room (Nat.le_of_ble_eq_true rfl)) dX6_readTest_66 ⟨(Nat.le_of_ble_eq_true rfl), (Nat.le_of_ble_eq_true rfl)⟩) hS (fun q _ h => hFc q h) hFc (fun r_49 u t H1 locs1 ht hvm h_50 hB hz1 hk1 hS1 => ?_)
        obtain ⟨w_pr_51, hP1, hK1, hD1⟩ := hB
        rw [ht] at hP1
        obtain ⟨hPn, hDn⟩ := va_join (wr := [(b0, .inr (5, [.ref b_deed, .ref b_value, .ref b_tests, .ref b_thing, .ref b_sign, .ref b_number, .int n_bk])), (b_tests, .inl (k_bi, 16, .inl f_tests)), (b_thing, .inl (k_bi, 48, .inl f_thing)), (b_sign, .inl (k_bi, 48, .inl f_sign)), (b_number, .inl (k_bi, 48, .inl f_number))]) (w1 := [(h0, .inr (6, [.ref d_tape, .int w_pr_51, .int n_nu])), (d_tape, .inr (9, [.ref p_bytes, .ref p_ts, .ref p_tc, .int n_ta, .int n_to, .int n_tl])), (p_tc, .inl (k_tc, 600, .inl f_tc))]) hP hD [5, 6, 7] [0, 1, 2, 3, 4] rfl rfl (by decide) (by decide) hk1 hFc hP1 hD1
        clear hP1 hD1 hK1
        clear hP hD hS hPc hDc hKc hFc hk1 hz1 ht hvm
        clear t
        revert hS1 hPn hDn; generalize H1 = H; generalize locs1 = locs; intro hS hP hD
        change va_P (dC, dI) vwCl [(b0, .inr (5, [.ref b_deed, .ref b_value, .ref b_tests, .ref b_thing, .ref b_sign, .ref b_number, .int n_bk])), (b_tests, .inl (k_bi, 16, .inl f_tests)), (b_thing, .inl (k_bi, 48, .inl f_thing)), (b_sign, .inl (k_bi, 48, .inl f_sign)), (b_number, .inl (k_bi, 48, .inl f_number)), (h0, .inr (6, [.ref d_tape, .int w_pr_51, .int n_nu])), (d_tape, .inr (9, [.ref p_bytes, .ref p_ts, .ref p_tc, .int n_ta, .int n_to, .int n_tl])), (p_tc, .inl (k_tc, 600, .inl f_tc))] H at hP
        change va_D A [(b0, .inr (5, [.ref b_deed, .ref b_value, .ref b_tests, .ref b_thing, .ref b_sign, .ref b_number, .int n_bk])), (b_tests, .inl (k_bi, 16, .inl f_tests)), (b_thing, .inl (k_bi, 48, .inl f_thing)), (b_sign, .inl (k_bi, 48, .inl f_sign)), (b_number, .inl (k_bi, 48, .inl f_number)), (h0, .inr (6, [.ref d_tape, .int w_pr_51, .int n_nu])), (d_tape, .inr (9, [.ref p_bytes, .ref p_ts, .ref p_tc, .int n_ta, .int n_to, .int n_tl])), (p_tc, .inl (k_tc, 600, .inl f_tc))] at hD
        rcases h_50 with ⟨rfl, h_50⟩ | ⟨rfl, h_50⟩
        · refine lv_if_eq (tgt := 76) hx hb dX6_readTest_69 (by decide) (fun c_52 => absurd c_52 (by decide)) ?_
          intro _
          refine lv_iconst (v := 1) hx hb dX6_readTest_72 (by decide) ?_
          refine lv_goto (tgt := 77) hx hb dX6_readTest_73 (by decide) ?_
          refine lv_istore (lv' := [(4, .int 1), (3, .int r_9), (2, .int r_1), (0, .ref h0), (1, .ref b0)]) hx hb dX6_readTest_77 hl (by decide) rfl ?_
          clear hl; intro ls hl
          refine lv_iload hx hb dX6_readTest_79 (lv_at hl 0 rfl) ?_
          refine lv_if_eq (tgt := 94) hx hb dX6_readTest_81 (by decide) (fun c_53 => absurd c_53 (by decide)) ?_
          intro _
          refine lv_aload_n hx hb dX6_readTest_84 rfl (lv_at hl 3 rfl) ?_
          refine lv_sipush (v := 9999) hx hb dX6_readTest_85 (by decide) ?_
          have hPc := hP.sub (ws' := [(h0, .inr (6, [.ref d_tape, .int w_pr_51, .int n_nu])), (d_tape, .inr (9, [.ref p_bytes, .ref p_ts, .ref p_tc, .int n_ta, .int n_to, .int n_tl])), (p_tc, .inl (k_tc, 600, .inl f_tc))]) [5, 6, 7] rfl
          have hDc := hD.sub (ws' := [(h0, .inr (6, [.ref d_tape, .int w_pr_51, .int n_nu])), (d_tape, .inr (9, [.ref p_bytes, .ref p_ts, .ref p_tc, .int n_ta, .int n_to, .int n_tl])), (p_tc, .inl (k_tc, 600, .inl f_tc))]) [5, 6, 7] (by decide) rfl
          have hKc := hK.sub (tys' := [(k_tc, .int)]) [0] rfl
          have hFc := va_free (wc := [(h0, .inr (6, [.ref d_tape, .int w_pr_51, .int n_nu])), (d_tape, .inr (9, [.ref p_bytes, .ref p_ts, .ref p_tc, .int n_ta, .int n_to, .int n_tl])), (p_tc, .inl (k_tc, 600, .inl f_tc))]) hD hS hA [5, 6, 7] rfl
          refine va_calli (va_runV (C := RX6) (As := [.int 9999]) (rest := []) ⟨hx, hb, hml, hown, htb⟩ (kX6_takeNumber l dC dI H.size h0 d_tape w_pr_51 n_nu p_bytes p_ts p_tc n_ta n_to n_tl k_tc f_tc 9999 yq) ⟨callB_of 1 htb (gd_c m_934) rfl rfl rfl (htb _ m_11) (htb _ m_931) hdX6_takeNumber ⟨(Nat.le_of_ble_eq_true rfl), (Nat.le_of_ble_eq_true rfl)⟩, htb _ m_933, htb _ ms_26⟩ ⟨pcW_blind, va_recv hKc hPc (ci := 6) (q0 := 0) rfl rfl, pcW_at hPc hKc hDc hN⟩ rfl rfl hl.1 rfl (lv_room (Nat.le_of_ble_eq_true rfl)) dX6_readTest_88 ⟨(Nat.le_of_ble_eq_true rfl), (Nat.le_of_ble_eq_true rfl)⟩) hS (fun q _ h => hFc q h) hFc (fun r_54 u t H1 locs1 ht hvm h_55 hB hz1 hk1 hS1 => ?_)
          obtain ⟨w_pr_56, w_nu_57, hP1, hK1, hD1⟩ := hB
          rw [ht] at hP1
          obtain ⟨hPn, hDn⟩ := va_join (wr := [(b0, .inr (5, [.ref b_deed, .ref b_value, .ref b_tests, .ref b_thing, .ref b_sign, .ref b_number, .int n_bk])), (b_tests, .inl (k_bi, 16, .inl f_tests)), (b_thing, .inl (k_bi, 48, .inl f_thing)), (b_sign, .inl (k_bi, 48, .inl f_sign)), (b_number, .inl (k_bi, 48, .inl f_number))]) (w1 := [(h0, .inr (6, [.ref d_tape, .int w_pr_56, .int w_nu_57])), (d_tape, .inr (9, [.ref p_bytes, .ref p_ts, .ref p_tc, .int n_ta, .int n_to, .int n_tl])), (p_tc, .inl (k_tc, 600, .inl f_tc))]) hP hD [5, 6, 7] [0, 1, 2, 3, 4] rfl rfl (by decide) (by decide) hk1 hFc hP1 hD1
          clear hP1 hD1 hK1
          clear hP hD hS hPc hDc hKc hFc hk1 hz1 ht hvm
          clear t
          revert hS1 hPn hDn; generalize H1 = H; generalize locs1 = locs; intro hS hP hD
          change va_P (dC, dI) vwCl [(b0, .inr (5, [.ref b_deed, .ref b_value, .ref b_tests, .ref b_thing, .ref b_sign, .ref b_number, .int n_bk])), (b_tests, .inl (k_bi, 16, .inl f_tests)), (b_thing, .inl (k_bi, 48, .inl f_thing)), (b_sign, .inl (k_bi, 48, .inl f_sign)), (b_number, .inl (k_bi, 48, .inl f_number)), (h0, .inr (6, [.ref d_tape, .int w_pr_56, .int w_nu_57])), (d_tape, .inr (9, [.ref p_bytes, .ref p_ts, .ref p_tc, .int n_ta, .int n_to, .int n_tl])), (p_tc, .inl (k_tc, 600, .inl f_tc))] H at hP
          change va_D A [(b0, .inr (5, [.ref b_deed, .ref b_value, .ref b_tests, .ref b_thing, .ref b_sign, .ref b_number, .int n_bk])), (b_tests, .inl (k_bi, 16, .inl f_tests)), (b_thing, .inl (k_bi, 48, .inl f_thing)), (b_sign, .inl (k_bi, 48, .inl f_sign)), (b_number, .inl (k_bi, 48, .inl f_number)), (h0, .inr (6, [.ref d_tape, .int w_pr_56, .int w_nu_57])), (d_tape, .inr (9, [.ref p_bytes, .ref p_ts, .ref p_tc, .int n_ta, .int n_to, .int n_tl])), (p_tc, .inl (k_tc, 600, .inl f_tc))] at hD
          rcases h_55 with ⟨rfl, h_55⟩ | ⟨rfl, h_55⟩
          · refine lv_if_ne (tgt := 96) hx hb dX6_readTest_91 (by decide) ?_ (fun c_58 => absurd c_58 (by decide))
            intro _
            refine lv_aload_n hx hb dX6_readTest_96 rfl (lv_at hl 4 rfl) ?_
            refine lv_iload_n hx hb dX6_readTest_97 rfl (lv_at hl 2 rfl) ?_
            refine lv_iload_n hx hb dX6_readTest_98 rfl (lv_at hl 1 rfl) ?_
            refine lv_aload_n hx hb dX6_readTest_99 rfl (lv_at hl 3 rfl) ?_
            refine va_get (D := (dC, dI)) (ci := 6) (v := .int w_nu_57) (C := RX6) (T := TX6) (N := 3) hx hb htb iX6 hown hK hP 5 rfl rfl 2 (Nat.le_of_ble_eq_true rfl) (htb _ m_265) (fun _ h9 => h9) rfl dX6_readTest_100 ?_
            have hPc := hP.sub (ws' := [(b0, .inr (5, [.ref b_deed, .ref b_value, .ref b_tests, .ref b_thing, .ref b_sign, .ref b_number, .int n_bk])), (b_tests, .inl (k_bi, 16, .inl f_tests)), (b_thing, .inl (k_bi, 48, .inl f_thing)), (b_sign, .inl (k_bi, 48, .inl f_sign)), (b_number, .inl (k_bi, 48, .inl f_number))]) [0, 1, 2, 3, 4] rfl
            have hDc := hD.sub (ws' := [(b0, .inr (5, [.ref b_deed, .ref b_value, .ref b_tests, .ref b_thing, .ref b_sign, .ref b_number, .int n_bk])), (b_tests, .inl (k_bi, 16, .inl f_tests)), (b_thing, .inl (k_bi, 48, .inl f_thing)), (b_sign, .inl (k_bi, 48, .inl f_sign)), (b_number, .inl (k_bi, 48, .inl f_number))]) [0, 1, 2, 3, 4] (by decide) rfl
            have hKc := hK.sub (tys' := [(k_bi, .int), (k_bi, .int), (k_bi, .int), (k_bi, .int)]) [1, 1, 1, 1] rfl
            have hFc := va_free (wc := [(b0, .inr (5, [.ref b_deed, .ref b_value, .ref b_tests, .ref b_thing, .ref b_sign, .ref b_number, .int n_bk])), (b_tests, .inl (k_bi, 16, .inl f_tests)), (b_thing, .inl (k_bi, 48, .inl f_thing)), (b_sign, .inl (k_bi, 48, .inl f_sign)), (b_number, .inl (k_bi, 48, .inl f_number))]) hD hS hA [0, 1, 2, 3, 4] rfl
            refine va_callv (va_runV (C := RX5) (As := [.int r_1, .int r_9, .int w_nu_57]) (rest := []) ⟨hx, hb, hml, hown, htb⟩ (kX5_addTest l dC dI H.size b0 b_deed b_value b_tests b_thing b_sign b_number n_bk k_bi k_bi k_bi k_bi f_tests f_thing f_sign f_number r_1 r_9 w_nu_57 yk yt) ⟨callB_of 3 htb (gd_c m_951) rfl rfl rfl (htb _ m_12) (htb _ m_948) hdX5_addTest ⟨(Nat.le_of_ble_eq_true rfl), (Nat.le_of_ble_eq_true rfl)⟩, htb _ m_949, htb _ m_950⟩ ⟨pcW_blind, va_recv hKc hPc (ci := 5) (q0 := 0) rfl rfl, pcW_at hPc hKc hDc hN⟩ rfl rfl hl.1 rfl (lv_room (Nat.le_of_ble_eq_true rfl)) dX6_readTest_103 ⟨(Nat.le_of_ble_eq_true rfl), (Nat.le_of_ble_eq_true rfl)⟩) hS (fun q _ h => hFc q h) hFc (fun u t H1 locs1 ht hvm h_60 hB hz1 hk1 hS1 => ?_)
            obtain ⟨w_tests_61, w_thing_62, w_sign_63, w_number_64, e_65, hP1, hK1, hD1⟩ := hB
            rw [ht] at hP1
            obtain ⟨hPn, hDn⟩ := va_join (wr := [(h0, .inr (6, [.ref d_tape, .int w_pr_56, .int w_nu_57])), (d_tape, .inr (9, [.ref p_bytes, .ref p_ts, .ref p_tc, .int n_ta, .int n_to, .int n_tl])), (p_tc, .inl (k_tc, 600, .inl f_tc))]) (w1 := [(b0, .inr (5, [.ref b_deed, .ref b_value, .ref b_tests, .ref b_thing, .ref b_sign, .ref b_number, .int n_bk])), (b_tests, .inl (k_bi, 16, .inl w_tests_61)), (b_thing, .inl (k_bi, 48, .inl w_thing_62)), (b_sign, .inl (k_bi, 48, .inl w_sign_63)), (b_number, .inl (k_bi, 48, .inl w_number_64))]) hP hD [0, 1, 2, 3, 4] [5, 6, 7] rfl rfl (by decide) (by decide) hk1 hFc hP1 hD1
            clear hP1 hD1 hK1
            clear hP hD hS hPc hDc hKc hFc hk1 hz1 ht hvm
            clear t
            revert hS1 hPn hDn; generalize H1 = H; generalize locs1 = locs; intro hS hP hD
            change va_P (dC, dI) vwCl [(h0, .inr (6, [.ref d_tape, .int w_pr_56, .int w_nu_57])), (d_tape, .inr (9, [.ref p_bytes, .ref p_ts, .ref p_tc, .int n_ta, .int n_to, .int n_tl])), (p_tc, .inl (k_tc, 600, .inl f_tc)), (b0, .inr (5, [.ref b_deed, .ref b_value, .ref b_tests, .ref b_thing, .ref b_sign, .ref b_number, .int n_bk])), (b_tests, .inl (k_bi, 16, .inl w_tests_61)), (b_thing, .inl (k_bi, 48, .inl w_thing_62)), (b_sign, .inl (k_bi, 48, .inl w_sign_63)), (b_number, .inl (k_bi, 48, .inl w_number_64))] H at hP
            change va_D A [(h0, .inr (6, [.ref d_tape, .int w_pr_56, .int w_nu_57])), (d_tape, .inr (9, [.ref p_bytes, .ref p_ts, .ref p_tc, .int n_ta, .int n_to, .int n_tl])), (p_tc, .inl (k_tc, 600, .inl f_tc)), (b0, .inr (5, [.ref b_deed, .ref b_value, .ref b_tests, .ref b_thing, .ref b_sign, .ref b_number, .int n_bk])), (b_tests, .inl (k_bi, 16, .inl w_tests_61)), (b_thing, .inl (k_bi, 48, .inl w_thing_62)), (b_sign, .inl (k_bi, 48, .inl w_sign_63)), (b_number, .inl (k_bi, 48, .inl w_number_64))] at hD
            refine lv_iconst (v := 1) hx hb dX6_readTest_106 (by decide) ?_
            refine W.widen (k := 0) (n := 0) (Nat.le_of_ble_eq_true rfl) (Nat.le_of_ble_eq_true rfl) ?_
            have hP9 := hP.sub (ws' := [(h0, .inr (6, [.ref d_tape, .int w_pr_56, .int w_nu_57])), (d_tape, .inr (9, [.ref p_bytes, .ref p_ts, .ref p_tc, .int n_ta, .int n_to, .int n_tl])), (p_tc, .inl (k_tc, 600, .inl f_tc)), (b0, .inr (5, [.ref b_deed, .ref b_value, .ref b_tests, .ref b_thing, .ref b_sign, .ref b_number, .int n_bk])), (b_tests, .inl (k_bi, 16, .inl w_tests_61)), (b_thing, .inl (k_bi, 48, .inl w_thing_62)), (b_sign, .inl (k_bi, 48, .inl w_sign_63)), (b_number, .inl (k_bi, 48, .inl w_number_64))]) [0, 1, 2, 3, 4, 5, 6, 7] rfl
            have hD9 := hD.sub (ws' := [(h0, .inr (6, [.ref d_tape, .int w_pr_56, .int w_nu_57])), (d_tape, .inr (9, [.ref p_bytes, .ref p_ts, .ref p_tc, .int n_ta, .int n_to, .int n_tl])), (p_tc, .inl (k_tc, 600, .inl f_tc)), (b0, .inr (5, [.ref b_deed, .ref b_value, .ref b_tests, .ref b_thing, .ref b_sign, .ref b_number, .int n_bk])), (b_tests, .inl (k_bi, 16, .inl w_tests_61)), (b_thing, .inl (k_bi, 48, .inl w_thing_62)), (b_sign, .inl (k_bi, 48, .inl w_sign_63)), (b_number, .inl (k_bi, 48, .inl w_number_64))]) [0, 1, 2, 3, 4, 5, 6, 7] (by decide) rfl
            have hK9 := hK.sub (tys' := []) [] rfl
            exact W.zret (ty := .boolean) (v := 1) hx hb hr rfl (fun t ht hW => ⟨⟨1, (), rfl, (Or.inl ⟨rfl, (lg_X6_readTest_2 n_ta n_to n_tl n_bk r_1 yq yk h_2 h_4 h_10 h_12 h_31 h_50 h_55)⟩), ⟨w_pr_56, w_nu_57, w_tests_61, w_thing_62, w_sign_63, w_number_64, e_65, by rw [ht]; exact hP9, va_K.moved hW.alike hK9, hD9⟩⟩, hS.F ht⟩) hS.2.2 dX6_readTest_107
          · refine lv_if_ne (tgt := 96) hx hb dX6_readTest_91 (by decide) (fun c_66 => absurd (by decide) c_66) ?_
            intro _
            refine lv_iconst (v := 0) hx hb dX6_readTest_94 (by decide) ?_
            refine W.widen (k := 0) (n := 0) (Nat.le_of_ble_eq_true rfl) (Nat.le_of_ble_eq_true rfl) ?_
            have hP9 := hP.sub (ws' := [(h0, .inr (6, [.ref d_tape, .int w_pr_56, .int w_nu_57])), (d_tape, .inr (9, [.ref p_bytes, .ref p_ts, .ref p_tc, .int n_ta, .int n_to, .int n_tl])), (p_tc, .inl (k_tc, 600, .inl f_tc)), (b0, .inr (5, [.ref b_deed, .ref b_value, .ref b_tests, .ref b_thing, .ref b_sign, .ref b_number, .int n_bk])), (b_tests, .inl (k_bi, 16, .inl f_tests)), (b_thing, .inl (k_bi, 48, .inl f_thing)), (b_sign, .inl (k_bi, 48, .inl f_sign)), (b_number, .inl (k_bi, 48, .inl f_number))]) [5, 6, 7, 0, 1, 2, 3, 4] rfl
            have hD9 := hD.sub (ws' := [(h0, .inr (6, [.ref d_tape, .int w_pr_56, .int w_nu_57])), (d_tape, .inr (9, [.ref p_bytes, .ref p_ts, .ref p_tc, .int n_ta, .int n_to, .int n_tl])), (p_tc, .inl (k_tc, 600, .inl f_tc)), (b0, .inr (5, [.ref b_deed, .ref b_value, .ref b_tests, .ref b_thing, .ref b_sign, .ref b_number, .int n_bk])), (b_tests, .inl (k_bi, 16, .inl f_tests)), (b_thing, .inl (k_bi, 48, .inl f_thing)), (b_sign, .inl (k_bi, 48, .inl f_sign)), (b_number, .inl (k_bi, 48, .inl f_number))]) [5, 6, 7, 0, 1, 2, 3, 4] (by decide) rfl
            have hK9 := hK.sub (tys' := []) [] rfl
            exact W.zret (ty := .boolean) (v := 0) hx hb hr rfl (fun t ht hW => ⟨⟨0, (), rfl, (Or.inr (⟨rfl, (lg_X6_readTest_2 n_ta n_to n_tl n_bk r_1 yq yk h_2 h_4 h_10 h_12 h_31 h_50 h_55)⟩)), ⟨w_pr_56, w_nu_57, f_tests, f_thing, f_sign, f_number, yt, by rw [ht]; exact hP9, va_K.moved hW.alike hK9, hD9⟩⟩, hS.F ht⟩) hS.2.2 dX6_readTest_95
        · refine lv_if_eq (tgt := 76) hx hb dX6_readTest_69 (by decide) ?_ (fun c_67 => absurd (by decide) c_67)
          intro _
          refine lv_iconst (v := 0) hx hb dX6_readTest_76 (by decide) ?_
          refine lv_istore (lv' := [(4, .int 0), (3, .int r_9), (2, .int r_1), (0, .ref h0), (1, .ref b0)]) hx hb dX6_readTest_77 hl (by decide) rfl ?_
          clear hl; intro ls hl
          refine lv_iload hx hb dX6_readTest_79 (lv_at hl 0 rfl) ?_
          refine lv_if_eq (tgt := 94) hx hb dX6_readTest_81 (by decide) ?_ (fun c_68 => absurd (by decide) c_68)
          intro _
          refine lv_iconst (v := 0) hx hb dX6_readTest_94 (by decide) ?_
          refine W.widen (k := 0) (n := 0) (Nat.le_of_ble_eq_true rfl) (Nat.le_of_ble_eq_true rfl) ?_
          have hP9 := hP.sub (ws' := [(h0, .inr (6, [.ref d_tape, .int w_pr_51, .int n_nu])), (d_tape, .inr (9, [.ref p_bytes, .ref p_ts, .ref p_tc, .int n_ta, .int n_to, .int n_tl])), (p_tc, .inl (k_tc, 600, .inl f_tc)), (b0, .inr (5, [.ref b_deed, .ref b_value, .ref b_tests, .ref b_thing, .ref b_sign, .ref b_number, .int n_bk])), (b_tests, .inl (k_bi, 16, .inl f_tests)), (b_thing, .inl (k_bi, 48, .inl f_thing)), (b_sign, .inl (k_bi, 48, .inl f_sign)), (b_number, .inl (k_bi, 48, .inl f_number))]) [5, 6, 7, 0, 1, 2, 3, 4] rfl
          have hD9 := hD.sub (ws' := [(h0, .inr (6, [.ref d_tape, .int w_pr_51, .int n_nu])), (d_tape, .inr (9, [.ref p_bytes, .ref p_ts, .ref p_tc, .int n_ta, .int n_to, .int n_tl])), (p_tc, .inl (k_tc, 600, .inl f_tc)), (b0, .inr (5, [.ref b_deed, .ref b_value, .ref b_tests, .ref b_thing, .ref b_sign, .ref b_number, .int n_bk])), (b_tests, .inl (k_bi, 16, .inl f_tests)), (b_thing, .inl (k_bi, 48, .inl f_thing)), (b_sign, .inl (k_bi, 48, .inl f_sign)), (b_number, .inl (k_bi, 48, .inl f_number))]) [5, 6, 7, 0, 1, 2, 3, 4] (by decide) rfl
          have hK9 := hK.sub (tys' := []) [] rfl
          exact W.zret (ty := .boolean) (v := 0) hx hb hr rfl (fun t ht hW => ⟨⟨0, (), rfl, (Or.inr (⟨rfl, (lg_X6_readTest_3 n_ta n_to n_tl n_bk r_1 yq yk h_2 h_4 h_10 h_12 h_31 h_50)⟩)), ⟨w_pr_51, n_nu, f_tests, f_thing, f_sign, f_number, yt, by rw [ht]; exact hP9, va_K.moved hW.alike hK9, hD9⟩⟩, hS.F ht⟩) hS.2.2 dX6_readTest_95
  · refine lv_if_ne (tgt := 23) hx hb dX6_readTest_18 (by decide) (fun c_69 => absurd (by decide) c_69) ?_
    intro _
    refine lv_iconst (v := 0) hx hb dX6_readTest_21 (by decide) ?_
    refine W.widen (k := 0) (n := 0) (Nat.le_of_ble_eq_true rfl) (Nat.le_of_ble_eq_true rfl) ?_
    have hP9 := hP.sub (ws' := [(h0, .inr (6, [.ref d_tape, .int n_pr, .int n_nu])), (d_tape, .inr (9, [.ref p_bytes, .ref p_ts, .ref p_tc, .int n_ta, .int n_to, .int n_tl])), (p_tc, .inl (k_tc, 600, .inl f_tc)), (b0, .inr (5, [.ref b_deed, .ref b_value, .ref b_tests, .ref b_thing, .ref b_sign, .ref b_number, .int n_bk])), (b_tests, .inl (k_bi, 16, .inl f_tests)), (b_thing, .inl (k_bi, 48, .inl f_thing)), (b_sign, .inl (k_bi, 48, .inl f_sign)), (b_number, .inl (k_bi, 48, .inl f_number))]) [0, 6, 7, 1, 2, 3, 4, 5] rfl
    have hD9 := hD.sub (ws' := [(h0, .inr (6, [.ref d_tape, .int n_pr, .int n_nu])), (d_tape, .inr (9, [.ref p_bytes, .ref p_ts, .ref p_tc, .int n_ta, .int n_to, .int n_tl])), (p_tc, .inl (k_tc, 600, .inl f_tc)), (b0, .inr (5, [.ref b_deed, .ref b_value, .ref b_tests, .ref b_thing, .ref b_sign, .ref b_number, .int n_bk])), (b_tests, .inl (k_bi, 16, .inl f_tests)), (b_thing, .inl (k_bi, 48, .inl f_thing)), (b_sign, .inl (k_bi, 48, .inl f_sign)), (b_number, .inl (k_bi, 48, .inl f_number))]) [0, 6, 7, 1, 2, 3, 4, 5] (by decide) rfl
    have hK9 := hK.sub (tys' := []) [] rfl
    exact W.zret (ty := .boolean) (v := 0) hx hb hr rfl (fun t ht hW => ⟨⟨0, (), rfl, (Or.inr (⟨rfl, (lg_X6_readTest_4 n_ta n_to n_tl n_bk r_1 yq yk h_2 h_4)⟩)), ⟨n_pr, n_nu, f_tests, f_thing, f_sign, f_number, yt, by rw [ht]; exact hP9, va_K.moved hW.alike hK9, hD9⟩⟩, hS.F ht⟩) hS.2.2 dX6_readTest_22

theorem lg_X6_readTests_0 (n_ta : Int32) (n_to : Int32) (n_tl : Int32) (n_bk : Int32) (yq : 0 ≤ n_ta.toInt ∧ n_ta.toInt ≤ 600 ∧ 0 ≤ n_to.toInt ∧ n_to.toInt ≤ 600 ∧ 0 ≤ n_tl.toInt ∧ n_tl.toInt ≤ 600) (yk : 0 ≤ n_bk.toInt ∧ n_bk.toInt ≤ 16) : (3 - (0 : Int)) < ((Int.toNat (3 - (0 : Int)) + 1 : Nat) : Int) := by
  have := rg_rng n_ta; have := rg_rng n_to; have := rg_rng n_tl; have := rg_rng n_bk; omega
theorem lg_X6_readTests_1 (n_ta : Int32) (n_to : Int32) (n_tl : Int32) (n_bk : Int32) (yq : 0 ≤ n_ta.toInt ∧ n_ta.toInt ≤ 600 ∧ 0 ≤ n_to.toInt ∧ n_to.toInt ≤ 600 ∧ 0 ≤ n_tl.toInt ∧ n_tl.toInt ≤ 600) (yk : 0 ≤ n_bk.toInt ∧ n_bk.toInt ≤ 16) : 0 ≤ (0 : Int) ∧ (0 : Int) ≤ 3 := by
  have := rg_rng n_ta; have := rg_rng n_to; have := rg_rng n_tl; have := rg_rng n_bk; omega
theorem lg_X6_readTests_2 (n_ta : Int32) (n_to : Int32) (n_tl : Int32) (n_bk : Int32) (i_1 : Int32) (yq : 0 ≤ n_ta.toInt ∧ n_ta.toInt ≤ 600 ∧ 0 ≤ n_to.toInt ∧ n_to.toInt ≤ 600 ∧ 0 ≤ n_tl.toInt ∧ n_tl.toInt ≤ 600) (yk : 0 ≤ n_bk.toInt ∧ n_bk.toInt ≤ 16) (hi1_0 : 0 ≤ i_1.toInt ∧ i_1.toInt ≤ 3) (hmu1 : (3 - i_1.toInt) < ((0 : Nat) : Int)) : False := by
  have := rg_rng n_ta; have := rg_rng n_to; have := rg_rng n_tl; have := rg_rng n_bk; have := rg_rng i_1; omega
theorem lg_X6_readTests_3 (n_ta : Int32) (n_to : Int32) (n_tl : Int32) (n_bk : Int32) (i_1 : Int32) (n1 : Nat) (yq : 0 ≤ n_ta.toInt ∧ n_ta.toInt ≤ 600 ∧ 0 ≤ n_to.toInt ∧ n_to.toInt ≤ 600 ∧ 0 ≤ n_tl.toInt ∧ n_tl.toInt ≤ 600) (yk : 0 ≤ n_bk.toInt ∧ n_bk.toInt ≤ 16) (hi1_0 : 0 ≤ i_1.toInt ∧ i_1.toInt ≤ 3) (hmu1 : (3 - i_1.toInt) < ((n1 + 1 : Nat) : Int)) (t_3 : (3 : Int) ≤ i_1.toInt) : True := by
  have := rg_rng n_ta; have := rg_rng n_to; have := rg_rng n_tl; have := rg_rng n_bk; have := rg_rng i_1; trivial
theorem lg_X6_readTests_4 (n_ta : Int32) (n_to : Int32) (n_tl : Int32) (n_bk : Int32) (i_1 : Int32) (n1 : Nat) (yq : 0 ≤ n_ta.toInt ∧ n_ta.toInt ≤ 600 ∧ 0 ≤ n_to.toInt ∧ n_to.toInt ≤ 600 ∧ 0 ≤ n_tl.toInt ∧ n_tl.toInt ≤ 600) (yk : 0 ≤ n_bk.toInt ∧ n_bk.toInt ≤ 16) (hi1_0 : 0 ≤ i_1.toInt ∧ i_1.toInt ≤ 3) (hmu1 : (3 - i_1.toInt) < ((n1 + 1 : Nat) : Int)) (t_3 : i_1.toInt < (3 : Int)) (h_5 : True) (h_15 : True) : -2147483648 ≤ i_1.toInt + 1 ∧ i_1.toInt + 1 < 2147483648 := by
  have := rg_rng n_ta; have := rg_rng n_to; have := rg_rng n_tl; have := rg_rng n_bk; have := rg_rng i_1; omega
theorem lg_X6_readTests_5 (n_ta : Int32) (n_to : Int32) (n_tl : Int32) (n_bk : Int32) (i_1 : Int32) (n1 : Nat) (x_18 : Int32) (yq : 0 ≤ n_ta.toInt ∧ n_ta.toInt ≤ 600 ∧ 0 ≤ n_to.toInt ∧ n_to.toInt ≤ 600 ∧ 0 ≤ n_tl.toInt ∧ n_tl.toInt ≤ 600) (yk : 0 ≤ n_bk.toInt ∧ n_bk.toInt ≤ 16) (hi1_0 : 0 ≤ i_1.toInt ∧ i_1.toInt ≤ 3) (hmu1 : (3 - i_1.toInt) < ((n1 + 1 : Nat) : Int)) (t_3 : i_1.toInt < (3 : Int)) (h_5 : True) (h_15 : True) (t_20 : x_18.toInt = i_1.toInt + 1) : (3 - x_18.toInt) < (n1 : Int) := by
  have := rg_rng n_ta; have := rg_rng n_to; have := rg_rng n_tl; have := rg_rng n_bk; have := rg_rng i_1; have := rg_rng x_18; omega
theorem lg_X6_readTests_6 (n_ta : Int32) (n_to : Int32) (n_tl : Int32) (n_bk : Int32) (i_1 : Int32) (n1 : Nat) (x_18 : Int32) (yq : 0 ≤ n_ta.toInt ∧ n_ta.toInt ≤ 600 ∧ 0 ≤ n_to.toInt ∧ n_to.toInt ≤ 600 ∧ 0 ≤ n_tl.toInt ∧ n_tl.toInt ≤ 600) (yk : 0 ≤ n_bk.toInt ∧ n_bk.toInt ≤ 16) (hi1_0 : 0 ≤ i_1.toInt ∧ i_1.toInt ≤ 3) (hmu1 : (3 - i_1.toInt) < ((n1 + 1 : Nat) : Int)) (t_3 : i_1.toInt < (3 : Int)) (h_5 : True) (h_15 : True) (t_20 : x_18.toInt = i_1.toInt + 1) : 0 ≤ x_18.toInt ∧ x_18.toInt ≤ 3 := by
  have := rg_rng n_ta; have := rg_rng n_to; have := rg_rng n_tl; have := rg_rng n_bk; have := rg_rng i_1; have := rg_rng x_18; omega
theorem lg_X6_readTests_7 (n_ta : Int32) (n_to : Int32) (n_tl : Int32) (n_bk : Int32) (i_1 : Int32) (n1 : Nat) (yq : 0 ≤ n_ta.toInt ∧ n_ta.toInt ≤ 600 ∧ 0 ≤ n_to.toInt ∧ n_to.toInt ≤ 600 ∧ 0 ≤ n_tl.toInt ∧ n_tl.toInt ≤ 600) (yk : 0 ≤ n_bk.toInt ∧ n_bk.toInt ≤ 16) (hi1_0 : 0 ≤ i_1.toInt ∧ i_1.toInt ≤ 3) (hmu1 : (3 - i_1.toInt) < ((n1 + 1 : Nat) : Int)) (t_3 : i_1.toInt < (3 : Int)) (h_5 : True) (h_15 : True) : True := by
  have := rg_rng n_ta; have := rg_rng n_to; have := rg_rng n_tl; have := rg_rng n_bk; have := rg_rng i_1; trivial
theorem lg_X6_readTests_8 (n_ta : Int32) (n_to : Int32) (n_tl : Int32) (n_bk : Int32) (i_1 : Int32) (n1 : Nat) (yq : 0 ≤ n_ta.toInt ∧ n_ta.toInt ≤ 600 ∧ 0 ≤ n_to.toInt ∧ n_to.toInt ≤ 600 ∧ 0 ≤ n_tl.toInt ∧ n_tl.toInt ≤ 600) (yk : 0 ≤ n_bk.toInt ∧ n_bk.toInt ≤ 16) (hi1_0 : 0 ≤ i_1.toInt ∧ i_1.toInt ≤ 3) (hmu1 : (3 - i_1.toInt) < ((n1 + 1 : Nat) : Int)) (t_3 : i_1.toInt < (3 : Int)) (h_5 : True) : True := by
  have := rg_rng n_ta; have := rg_rng n_to; have := rg_rng n_tl; have := rg_rng n_bk; have := rg_rng i_1; trivial
set_option maxHeartbeats 4000000 in
set_option maxRecDepth 100000 in
theorem kX6_readTests (l : Launch) (dC : Nat → ClassId) (dI : Nat → Nat → Nat) (sz : Nat) (h0 : Nat) (d_tape : Nat) (n_pr : Int32) (n_nu : Int32) (p_bytes : Nat) (p_ts : Nat) (p_tc : Nat) (n_ta : Int32) (n_to : Int32) (n_tl : Int32) (k_tc : ClassId) (f_tc : Nat → Int32) (b0 : Nat) (b_deed : Nat) (b_value : Nat) (b_tests : Nat) (b_thing : Nat) (b_sign : Nat) (b_number : Nat) (n_bk : Int32) (k_bi : ClassId) (f_tests : Nat → Int32) (f_thing : Nat → Int32) (f_sign : Nat → Int32) (f_number : Nat → Int32) (yq : 0 ≤ n_ta.toInt ∧ n_ta.toInt ≤ 600 ∧ 0 ≤ n_to.toInt ∧ n_to.toInt ≤ 600 ∧ 0 ≤ n_tl.toInt ∧ n_tl.toInt ≤ 600) (yk : 0 ≤ n_bk.toInt ∧ n_bk.toInt ≤ 16) (yt : Rg f_tests 16 0 3) : Met l yX6_readTests (Cond.code yX6_readTests cX6_readTests 3 (some .boolean) :: bg) ({ frames := 3, cells := 0, slots := 0, locals := 68 }) (pcW dC dI [.ref h0, .ref b0] sz [(h0, .inr (6, [.ref d_tape, .int n_pr, .int n_nu])), (d_tape, .inr (9, [.ref p_bytes, .ref p_ts, .ref p_tc, .int n_ta, .int n_to, .int n_tl])), (p_tc, .inl (k_tc, 600, .inl f_tc)), (b0, .inr (5, [.ref b_deed, .ref b_value, .ref b_tests, .ref b_thing, .ref b_sign, .ref b_number, .int n_bk])), (b_tests, .inl (k_bi, 16, .inl f_tests)), (b_thing, .inl (k_bi, 48, .inl f_thing)), (b_sign, .inl (k_bi, 48, .inl f_sign)), (b_number, .inl (k_bi, 48, .inl f_number))] [(k_tc, .int), (k_bi, .int)]) (va_Qi (fun (r : Int32) (u : Unit) => (r = 1 ∧ True) ∨ (r = 0 ∧ True)) (fun (u : Unit) (t : State) => ∃ (w_pr : Int32) (w_nu : Int32) (w_tests : Nat → Int32) (w_thing : Nat → Int32) (w_sign : Nat → Int32) (w_number : Nat → Int32), Rg w_tests 16 0 3 ∧ va_P (dC, dI) vwCl [(h0, .inr (6, [.ref d_tape, .int w_pr, .int w_nu])), (d_tape, .inr (9, [.ref p_bytes, .ref p_ts, .ref p_tc, .int n_ta, .int n_to, .int n_tl])), (p_tc, .inl (k_tc, 600, .inl f_tc)), (b0, .inr (5, [.ref b_deed, .ref b_value, .ref b_tests, .ref b_thing, .ref b_sign, .ref b_number, .int n_bk])), (b_tests, .inl (k_bi, 16, .inl w_tests)), (b_thing, .inl (k_bi, 48, .inl w_thing)), (b_sign, .inl (k_bi, 48, .inl w_sign)), (b_number, .inl (k_bi, 48, .inl w_number))] t.heap ∧ va_K (dC, dI) vwCl [] t ∧ va_D (va_A [(h0, .inr (6, [.ref d_tape, .int n_pr, .int n_nu])), (d_tape, .inr (9, [.ref p_bytes, .ref p_ts, .ref p_tc, .int n_ta, .int n_to, .int n_tl])), (p_tc, .inl (k_tc, 600, .inl f_tc)), (b0, .inr (5, [.ref b_deed, .ref b_value, .ref b_tests, .ref b_thing, .ref b_sign, .ref b_number, .int n_bk])), (b_tests, .inl (k_bi, 16, .inl f_tests)), (b_thing, .inl (k_bi, 48, .inl f_thing)), (b_sign, .inl (k_bi, 48, .inl f_sign)), (b_number, .inl (k_bi, 48, .inl f_number))] sz) [(h0, .inr (6, [.ref d_tape, .int w_pr, .int w_nu])), (d_tape, .inr (9, [.ref p_bytes, .ref p_ts, .ref p_tc, .int n_ta, .int n_to, .int n_tl])), (p_tc, .inl (k_tc, 600, .inl f_tc)), (b0, .inr (5, [.ref b_deed, .ref b_value, .ref b_tests, .ref b_thing, .ref b_sign, .ref b_number, .int n_bk])), (b_tests, .inl (k_bi, 16, .inl w_tests)), (b_thing, .inl (k_bi, 48, .inl w_thing)), (b_sign, .inl (k_bi, 48, .inl w_sign)), (b_number, .inl (k_bi, 48, .inl w_number))]) (va_A [(h0, .inr (6, [.ref d_tape, .int n_pr, .int n_nu])), (d_tape, .inr (9, [.ref p_bytes, .ref p_ts, .ref p_tc, .int n_ta, .int n_to, .int n_tl])), (p_tc, .inl (k_tc, 600, .inl f_tc)), (b0, .inr (5, [.ref b_deed, .ref b_value, .ref b_tests, .ref b_thing, .ref b_sign, .ref b_number, .int n_bk])), (b_tests, .inl (k_bi, 16, .inl f_tests)), (b_thing, .inl (k_bi, 48, .inl f_thing)), (b_sign, .inl (k_bi, 48, .inl f_sign)), (b_number, .inl (k_bi, 48, .inl f_number))] sz)) 0 0 (va_A [(h0, .inr (6, [.ref d_tape, .int n_pr, .int n_nu])), (d_tape, .inr (9, [.ref p_bytes, .ref p_ts, .ref p_tc, .int n_ta, .int n_to, .int n_tl])), (p_tc, .inl (k_tc, 600, .inl f_tc)), (b0, .inr (5, [.ref b_deed, .ref b_value, .ref b_tests, .ref b_thing, .ref b_sign, .ref b_number, .int n_bk])), (b_tests, .inl (k_bi, 16, .inl f_tests)), (b_thing, .inl (k_bi, 48, .inl f_thing)), (b_sign, .inl (k_bi, 48, .inl f_sign)), (b_number, .inl (k_bi, 48, .inl f_number))] sz) := by
  refine Met.ofW (cc := cX6_readTests) (maxL := 3) (ret := (some .boolean)) pnX6 rfl ?_
  intro p e s m args below meth c s₁ B hml hv
  obtain ⟨rfl, hsz, hP, hK, hD0, hN⟩ := hv
  have hx := B.exec
  have hb := B.bytes
  have hr := B.returns
  have htb : ∀ w ∈ bg, w.before [.ref h0, .ref b0].toArray s = true := fun w h => atoms_spec (ws := Cond.code yX6_readTests cX6_readTests 3 (some .boolean) :: bg) B.pre w (List.mem_cons_of_mem _ h)
  have hown : s.vm.findClass RX6 = some m.cls := findClass_of_methodNamed B.named
  have hlocks := B.notSynchronized
  subst hsz
  have hD := hD0.self (sz := s.heap.size)
  generalize hAe : va_A [(h0, .inr (6, [.ref d_tape, .int n_pr, .int n_nu])), (d_tape, .inr (9, [.ref p_bytes, .ref p_ts, .ref p_tc, .int n_ta, .int n_to, .int n_tl])), (p_tc, .inl (k_tc, 600, .inl f_tc)), (b0, .inr (5, [.ref b_deed, .ref b_value, .ref b_tests, .ref b_thing, .ref b_sign, .ref b_number, .int n_bk])), (b_tests, .inl (k_bi, 16, .inl f_tests)), (b_thing, .inl (k_bi, 48, .inl f_thing)), (b_sign, .inl (k_bi, 48, .inl f_sign)), (b_number, .inl (k_bi, 48, .inl f_number))] s.heap.size = A at hD ⊢
  have hA : ∀ q : Nat, s.heap.size ≤ q → A q := fun q h => by rw [← hAe]; exact Or.inr h
  have hS : va_S A s.heap s.heap [] := va_S.rf
  have hl := lv_entry ([.ref h0, .ref b0]) (n := 3) (Nat.le_of_ble_eq_true rfl)
  rw [lg_entry_eq]
  generalize (lg_sl ([.ref h0, .ref b0]) ++ List.replicate (3 - (lg_sl ([.ref h0, .ref b0])).length) Slot.unset).toArray = ls at hl ⊢
  change lv_has ls 3 [(0, .ref h0), (1, .ref b0)] at hl
  clear hD0 hAe
  refine go0 (wsP := fun H => va_P (dC, dI) vwCl [(h0, .inr (6, [.ref d_tape, .int n_pr, .int n_nu])), (d_tape, .inr (9, [.ref p_bytes, .ref p_ts, .ref p_tc, .int n_ta, .int n_to, .int n_tl])), (p_tc, .inl (k_tc, 600, .inl f_tc)), (b0, .inr (5, [.ref b_deed, .ref b_value, .ref b_tests, .ref b_thing, .ref b_sign, .ref b_number, .int n_bk])), (b_tests, .inl (k_bi, 16, .inl f_tests)), (b_thing, .inl (k_bi, 48, .inl f_thing)), (b_sign, .inl (k_bi, 48, .inl f_sign)), (b_number, .inl (k_bi, 48, .inl f_number))] H) hP hS ?_
  clear hP hS; intro H locs hP hS
  change va_P (dC, dI) vwCl [(h0, .inr (6, [.ref d_tape, .int n_pr, .int n_nu])), (d_tape, .inr (9, [.ref p_bytes, .ref p_ts, .ref p_tc, .int n_ta, .int n_to, .int n_tl])), (p_tc, .inl (k_tc, 600, .inl f_tc)), (b0, .inr (5, [.ref b_deed, .ref b_value, .ref b_tests, .ref b_thing, .ref b_sign, .ref b_number, .int n_bk])), (b_tests, .inl (k_bi, 16, .inl f_tests)), (b_thing, .inl (k_bi, 48, .inl f_thing)), (b_sign, .inl (k_bi, 48, .inl f_sign)), (b_number, .inl (k_bi, 48, .inl f_number))] H at hP
  refine lv_iconst (v := 0) hx hb dX6_readTests_0 (by decide) ?_
  refine lv_istore_n (lv' := [(2, .int 0), (0, .ref h0), (1, .ref b0)]) hx hb dX6_readTests_1 rfl hl (by decide) rfl ?_
  clear hl; intro ls hl
  refine (fun (lp : ∀ (n1 : Nat) (i_1 : Int32) (pr_1 : Int32) (nu_1 : Int32) (ga_b_tests_1 : Nat → Int32) (ga_b_thing_1 : Nat → Int32) (ga_b_sign_1 : Nat → Int32) (ga_b_number_1 : Nat → Int32) (H : Heap) (locs : List Loc) (ls : Array Slot), (3 - i_1.toInt) < (n1 : Int) → (0 ≤ i_1.toInt ∧ i_1.toInt ≤ 3) → Rg ga_b_tests_1 16 0 3 → lv_has ls 3 [(2, .int i_1), (0, .ref h0), (1, .ref b0)] → va_P (dC, dI) vwCl [(h0, .inr (6, [.ref d_tape, .int pr_1, .int nu_1])), (d_tape, .inr (9, [.ref p_bytes, .ref p_ts, .ref p_tc, .int n_ta, .int n_to, .int n_tl])), (p_tc, .inl (k_tc, 600, .inl f_tc)), (b0, .inr (5, [.ref b_deed, .ref b_value, .ref b_tests, .ref b_thing, .ref b_sign, .ref b_number, .int n_bk])), (b_tests, .inl (k_bi, 16, .inl ga_b_tests_1)), (b_thing, .inl (k_bi, 48, .inl ga_b_thing_1)), (b_sign, .inl (k_bi, 48, .inl ga_b_sign_1)), (b_number, .inl (k_bi, 48, .inl ga_b_number_1))] H → va_D A [(h0, .inr (6, [.ref d_tape, .int pr_1, .int nu_1])), (d_tape, .inr (9, [.ref p_bytes, .ref p_ts, .ref p_tc, .int n_ta, .int n_to, .int n_tl])), (p_tc, .inl (k_tc, 600, .inl f_tc)), (b0, .inr (5, [.ref b_deed, .ref b_value, .ref b_tests, .ref b_thing, .ref b_sign, .ref b_number, .int n_bk])), (b_tests, .inl (k_bi, 16, .inl ga_b_tests_1)), (b_thing, .inl (k_bi, 48, .inl ga_b_thing_1)), (b_sign, .inl (k_bi, 48, .inl ga_b_sign_1)), (b_number, .inl (k_bi, 48, .inl ga_b_number_1))] → va_S A s.heap H locs → W p l e _ s m _ below meth c H locs _ _ _ (F0 m 2 ls [])) => lp (Int.toNat (3 - (0 : Int)) + 1) 0 n_pr n_nu f_tests f_thing f_sign f_number H locs ls ((lg_X6_readTests_0 n_ta n_to n_tl n_bk yq yk)) (lg_X6_readTests_1 n_ta n_to n_tl n_bk yq yk) yt  hl hP hD hS) ?_
  clear hP hD hS hl
  intro n1
  induction n1 with
  | zero =>
    intro i_1 pr_1 nu_1 ga_b_tests_1 ga_b_thing_1 ga_b_sign_1 ga_b_number_1 H locs ls hmu1 hi1_0 hg1_ga_b_tests_1  hl hP hD hS
    exact False.elim (lg_X6_readTests_2 n_ta n_to n_tl n_bk i_1 yq yk hi1_0 hmu1)
  | succ n1 ih1 =>
    intro i_1 pr_1 nu_1 ga_b_tests_1 ga_b_thing_1 ga_b_sign_1 ga_b_number_1 H locs ls hmu1 hi1_0 hg1_ga_b_tests_1  hl hP hD hS
    refine lv_iload_n hx hb dX6_readTests_2 rfl (lv_at hl 0 rfl) ?_
    refine lv_iconst (v := 3) hx hb dX6_readTests_3 (by decide) ?_
    refine lv_icmp_ge (tgt := 34) hx hb dX6_readTests_4 (by decide) (fun c_2 => ?_) (fun c_2 => ?_)
    · have t_3 : (3 : Int) ≤ i_1.toInt := i_le (by decide) rfl c_2
      refine lv_iconst (v := 0) hx hb dX6_readTests_34 (by decide) ?_
      refine W.widen (k := 0) (n := 0) (Nat.le_of_ble_eq_true rfl) (Nat.le_of_ble_eq_true rfl) ?_
      have hP9 := hP.sub (ws' := [(h0, .inr (6, [.ref d_tape, .int pr_1, .int nu_1])), (d_tape, .inr (9, [.ref p_bytes, .ref p_ts, .ref p_tc, .int n_ta, .int n_to, .int n_tl])), (p_tc, .inl (k_tc, 600, .inl f_tc)), (b0, .inr (5, [.ref b_deed, .ref b_value, .ref b_tests, .ref b_thing, .ref b_sign, .ref b_number, .int n_bk])), (b_tests, .inl (k_bi, 16, .inl ga_b_tests_1)), (b_thing, .inl (k_bi, 48, .inl ga_b_thing_1)), (b_sign, .inl (k_bi, 48, .inl ga_b_sign_1)), (b_number, .inl (k_bi, 48, .inl ga_b_number_1))]) [0, 1, 2, 3, 4, 5, 6, 7] rfl
      have hD9 := hD.sub (ws' := [(h0, .inr (6, [.ref d_tape, .int pr_1, .int nu_1])), (d_tape, .inr (9, [.ref p_bytes, .ref p_ts, .ref p_tc, .int n_ta, .int n_to, .int n_tl])), (p_tc, .inl (k_tc, 600, .inl f_tc)), (b0, .inr (5, [.ref b_deed, .ref b_value, .ref b_tests, .ref b_thing, .ref b_sign, .ref b_number, .int n_bk])), (b_tests, .inl (k_bi, 16, .inl ga_b_tests_1)), (b_thing, .inl (k_bi, 48, .inl ga_b_thing_1)), (b_sign, .inl (k_bi, 48, .inl ga_b_sign_1)), (b_number, .inl (k_bi, 48, .inl ga_b_number_1))]) [0, 1, 2, 3, 4, 5, 6, 7] (by decide) rfl
      have hK9 := hK.sub (tys' := []) [] rfl
      exact W.zret (ty := .boolean) (v := 0) hx hb hr rfl (fun t ht hW => ⟨⟨0, (), rfl, (Or.inr (⟨rfl, (lg_X6_readTests_3 n_ta n_to n_tl n_bk i_1 n1 yq yk hi1_0 hmu1 t_3)⟩)), ⟨pr_1, nu_1, ga_b_tests_1, ga_b_thing_1, ga_b_sign_1, ga_b_number_1, hg1_ga_b_tests_1, by rw [ht]; exact hP9, va_K.moved hW.alike hK9, hD9⟩⟩, hS.F ht⟩) hS.2.2 dX6_readTests_35
    · have t_3 : i_1.toInt < (3 : Int) := i_nle (by decide) rfl c_2
      refine lv_aload_n hx hb dX6_readTests_7 rfl (lv_at hl 1 rfl) ?_
      refine lv_aload_n hx hb dX6_readTests_8 rfl (lv_at hl 2 rfl) ?_
      have hPc := hP.sub (ws' := [(h0, .inr (6, [.ref d_tape, .int pr_1, .int nu_1])), (d_tape, .inr (9, [.ref p_bytes, .ref p_ts, .ref p_tc, .int n_ta, .int n_to, .int n_tl])), (p_tc, .inl (k_tc, 600, .inl f_tc)), (b0, .inr (5, [.ref b_deed, .ref b_value, .ref b_tests, .ref b_thing, .ref b_sign, .ref b_number, .int n_bk])), (b_tests, .inl (k_bi, 16, .inl ga_b_tests_1)), (b_thing, .inl (k_bi, 48, .inl ga_b_thing_1)), (b_sign, .inl (k_bi, 48, .inl ga_b_sign_1)), (b_number, .inl (k_bi, 48, .inl ga_b_number_1))]) [0, 1, 2, 3, 4, 5, 6, 7] rfl
      have hDc := hD.sub (ws' := [(h0, .inr (6, [.ref d_tape, .int pr_1, .int nu_1])), (d_tape, .inr (9, [.ref p_bytes, .ref p_ts, .ref p_tc, .int n_ta, .int n_to, .int n_tl])), (p_tc, .inl (k_tc, 600, .inl f_tc)), (b0, .inr (5, [.ref b_deed, .ref b_value, .ref b_tests, .ref b_thing, .ref b_sign, .ref b_number, .int n_bk])), (b_tests, .inl (k_bi, 16, .inl ga_b_tests_1)), (b_thing, .inl (k_bi, 48, .inl ga_b_thing_1)), (b_sign, .inl (k_bi, 48, .inl ga_b_sign_1)), (b_number, .inl (k_bi, 48, .inl ga_b_number_1))]) [0, 1, 2, 3, 4, 5, 6, 7] (by decide) rfl
      have hKc := hK.sub (tys' := [(k_tc, .int), (k_bi, .int)]) [0, 1] rfl
      have hFc := va_free (wc := [(h0, .inr (6, [.ref d_tape, .int pr_1, .int nu_1])), (d_tape, .inr (9, [.ref p_bytes, .ref p_ts, .ref p_tc, .int n_ta, .int n_to, .int n_tl])), (p_tc, .inl (k_tc, 600, .inl f_tc)), (b0, .inr (5, [.ref b_deed, .ref b_value, .ref b_tests, .ref b_thing, .ref b_sign, .ref b_number, .int n_bk])), (b_tests, .inl (k_bi, 16, .inl ga_b_tests_1)), (b_thing, .inl (k_bi, 48, .inl ga_b_thing_1)), (b_sign, .inl (k_bi, 48, .inl ga_b_sign_1)), (b_number, .inl (k_bi, 48, .inl ga_b_number_1))]) hD hS hA [0, 1, 2, 3, 4, 5, 6, 7] rfl
      refine va_calli (va_runV (C := RX6) (As := [.ref b0]) (rest := []) ⟨hx, hb, hml, hown, htb⟩ (kX6_readTest l dC dI H.size h0 d_tape pr_1 nu_1 p_bytes p_ts p_tc n_ta n_to n_tl k_tc f_tc b0 b_deed b_value b_tests b_thing b_sign b_number n_bk k_bi ga_b_tests_1 ga_b_thing_1 ga_b_sign_1 ga_b_number_1 yq yk hg1_ga_b_tests_1) ⟨callB_of 1 htb (gd_c m_947) rfl rfl rfl (htb _ m_11) (htb _ m_944) hdX6_readTest ⟨(Nat.le_of_ble_eq_true rfl), (Nat.le_of_ble_eq_true rfl)⟩, htb _ m_946, htb _ ms_28⟩ ⟨pcW_blind, va_recv hKc hPc (ci := 6) (q0 := 0) rfl rfl, pcW_at hPc hKc hDc hN⟩ rfl rfl hl.1 rfl (lv_room (Nat.le_of_ble_eq_true rfl)) dX6_readTests_9 ⟨(Nat.le_of_ble_eq_true rfl), (Nat.le_of_ble_eq_true rfl)⟩) hS (fun q _ h => hFc q h) hFc (fun r_4 u t H1 locs1 ht hvm h_5 hB hz1 hk1 hS1 => ?_)
      obtain ⟨w_pr_6, w_nu_7, w_tests_8, w_thing_9, w_sign_10, w_number_11, e_12, hP1, hK1, hD1⟩ := hB
      rw [ht] at hP1
      obtain ⟨hPn, hDn⟩ := va_join (wr := []) (w1 := [(h0, .inr (6, [.ref d_tape, .int w_pr_6, .int w_nu_7])), (d_tape, .inr (9, [.ref p_bytes, .ref p_ts, .ref p_tc, .int n_ta, .int n_to, .int n_tl])), (p_tc, .inl (k_tc, 600, .inl f_tc)), (b0, .inr (5, [.ref b_deed, .ref b_value, .ref b_tests, .ref b_thing, .ref b_sign, .ref b_number, .int n_bk])), (b_tests, .inl (k_bi, 16, .inl w_tests_8)), (b_thing, .inl (k_bi, 48, .inl w_thing_9)), (b_sign, .inl (k_bi, 48, .inl w_sign_10)), (b_number, .inl (k_bi, 48, .inl w_number_11))]) hP hD [0, 1, 2, 3, 4, 5, 6, 7] [] rfl rfl (by decide) (by decide) hk1 hFc hP1 hD1
      clear hP1 hD1 hK1
      clear hP hD hS hPc hDc hKc hFc hk1 hz1 ht hvm
      clear t
      revert hS1 hPn hDn; generalize H1 = H; generalize locs1 = locs; intro hS hP hD
      change va_P (dC, dI) vwCl [(h0, .inr (6, [.ref d_tape, .int w_pr_6, .int w_nu_7])), (d_tape, .inr (9, [.ref p_bytes, .ref p_ts, .ref p_tc, .int n_ta, .int n_to, .int n_tl])), (p_tc, .inl (k_tc, 600, .inl f_tc)), (b0, .inr (5, [.ref b_deed, .ref b_value, .ref b_tests, .ref b_thing, .ref b_sign, .ref b_number, .int n_bk])), (b_tests, .inl (k_bi, 16, .inl w_tests_8)), (b_thing, .inl (k_bi, 48, .inl w_thing_9)), (b_sign, .inl (k_bi, 48, .inl w_sign_10)), (b_number, .inl (k_bi, 48, .inl w_number_11))] H at hP
      change va_D A [(h0, .inr (6, [.ref d_tape, .int w_pr_6, .int w_nu_7])), (d_tape, .inr (9, [.ref p_bytes, .ref p_ts, .ref p_tc, .int n_ta, .int n_to, .int n_tl])), (p_tc, .inl (k_tc, 600, .inl f_tc)), (b0, .inr (5, [.ref b_deed, .ref b_value, .ref b_tests, .ref b_thing, .ref b_sign, .ref b_number, .int n_bk])), (b_tests, .inl (k_bi, 16, .inl w_tests_8)), (b_thing, .inl (k_bi, 48, .inl w_thing_9)), (b_sign, .inl (k_bi, 48, .inl w_sign_10)), (b_number, .inl (k_bi, 48, .inl w_number_11))] at hD
      rcases h_5 with ⟨rfl, h_5⟩ | ⟨rfl, h_5⟩
      · refine lv_if_ne (tgt := 17) hx hb dX6_readTests_12 (by decide) ?_ (fun c_13 => absurd c_13 (by decide))
        intro _
        refine lv_aload_n hx hb dX6_readTests_17 rfl (lv_at hl 1 rfl) ?_
        refine lv_bipush (v := 9) hx hb dX6_readTests_18 (by decide) ?_
        have hPc := hP.sub (ws' := [(h0, .inr (6, [.ref d_tape, .int w_pr_6, .int w_nu_7])), (d_tape, .inr (9, [.ref p_bytes, .ref p_ts, .ref p_tc, .int n_ta, .int n_to, .int n_tl])), (p_tc, .inl (k_tc, 600, .inl f_tc))]) [0, 1, 2] rfl
        have hDc := hD.sub (ws' := [(h0, .inr (6, [.ref d_tape, .int w_pr_6, .int w_nu_7])), (d_tape, .inr (9, [.ref p_bytes, .ref p_ts, .ref p_tc, .int n_ta, .int n_to, .int n_tl])), (p_tc, .inl (k_tc, 600, .inl f_tc))]) [0, 1, 2] (by decide) rfl
        have hKc := hK.sub (tys' := [(k_tc, .int)]) [0] rfl
        have hFc := va_free (wc := [(h0, .inr (6, [.ref d_tape, .int w_pr_6, .int w_nu_7])), (d_tape, .inr (9, [.ref p_bytes, .ref p_ts, .ref p_tc, .int n_ta, .int n_to, .int n_tl])), (p_tc, .inl (k_tc, 600, .inl f_tc))]) hD hS hA [0, 1, 2] rfl
        refine va_calli (va_runV (C := RX6) (As := [.int 9]) (rest := []) ⟨hx, hb, hml, hown, htb⟩ (kX6_take l dC dI H.size h0 d_tape w_pr_6 w_nu_7 p_bytes p_ts p_tc n_ta n_to n_tl k_tc f_tc 9 yq) ⟨callB_of 1 htb (gd_c m_922) rfl rfl rfl (htb _ m_11) (htb _ m_919) hdX6_take ⟨(Nat.le_of_ble_eq_true rfl), (Nat.le_of_ble_eq_true rfl)⟩, htb _ m_921, htb _ ms_24⟩ ⟨pcW_blind, va_recv hKc hPc (ci := 6) (q0 := 0) rfl rfl, pcW_at hPc hKc hDc hN⟩ rfl rfl hl.1 rfl (lv_room (Nat.le_of_ble_eq_true rfl)) dX6_readTests_20 ⟨(Nat.le_of_ble_eq_true rfl), (Nat.le_of_ble_eq_true rfl)⟩) hS (fun q _ h => hFc q h) hFc (fun r_14 u t H1 locs1 ht hvm h_15 hB hz1 hk1 hS1 => ?_)
        obtain ⟨w_pr_16, hP1, hK1, hD1⟩ := hB
        rw [ht] at hP1
        obtain ⟨hPn, hDn⟩ := va_join (wr := [(b0, .inr (5, [.ref b_deed, .ref b_value, .ref b_tests, .ref b_thing, .ref b_sign, .ref b_number, .int n_bk])), (b_tests, .inl (k_bi, 16, .inl w_tests_8)), (b_thing, .inl (k_bi, 48, .inl w_thing_9)), (b_sign, .inl (k_bi, 48, .inl w_sign_10)), (b_number, .inl (k_bi, 48, .inl w_number_11))]) (w1 := [(h0, .inr (6, [.ref d_tape, .int w_pr_16, .int w_nu_7])), (d_tape, .inr (9, [.ref p_bytes, .ref p_ts, .ref p_tc, .int n_ta, .int n_to, .int n_tl])), (p_tc, .inl (k_tc, 600, .inl f_tc))]) hP hD [0, 1, 2] [3, 4, 5, 6, 7] rfl rfl (by decide) (by decide) hk1 hFc hP1 hD1
        clear hP1 hD1 hK1
        clear hP hD hS hPc hDc hKc hFc hk1 hz1 ht hvm
        clear t
        revert hS1 hPn hDn; generalize H1 = H; generalize locs1 = locs; intro hS hP hD
        change va_P (dC, dI) vwCl [(b0, .inr (5, [.ref b_deed, .ref b_value, .ref b_tests, .ref b_thing, .ref b_sign, .ref b_number, .int n_bk])), (b_tests, .inl (k_bi, 16, .inl w_tests_8)), (b_thing, .inl (k_bi, 48, .inl w_thing_9)), (b_sign, .inl (k_bi, 48, .inl w_sign_10)), (b_number, .inl (k_bi, 48, .inl w_number_11)), (h0, .inr (6, [.ref d_tape, .int w_pr_16, .int w_nu_7])), (d_tape, .inr (9, [.ref p_bytes, .ref p_ts, .ref p_tc, .int n_ta, .int n_to, .int n_tl])), (p_tc, .inl (k_tc, 600, .inl f_tc))] H at hP
        change va_D A [(b0, .inr (5, [.ref b_deed, .ref b_value, .ref b_tests, .ref b_thing, .ref b_sign, .ref b_number, .int n_bk])), (b_tests, .inl (k_bi, 16, .inl w_tests_8)), (b_thing, .inl (k_bi, 48, .inl w_thing_9)), (b_sign, .inl (k_bi, 48, .inl w_sign_10)), (b_number, .inl (k_bi, 48, .inl w_number_11)), (h0, .inr (6, [.ref d_tape, .int w_pr_16, .int w_nu_7])), (d_tape, .inr (9, [.ref p_bytes, .ref p_ts, .ref p_tc, .int n_ta, .int n_to, .int n_tl])), (p_tc, .inl (k_tc, 600, .inl f_tc))] at hD
        rcases h_15 with ⟨rfl, h_15⟩ | ⟨rfl, h_15⟩
        · refine lv_if_ne (tgt := 28) hx hb dX6_readTests_23 (by decide) ?_ (fun c_17 => absurd c_17 (by decide))
          intro _
          obtain ⟨x_18, ex_19⟩ : ∃ y : Int32, y = i_1 + Int32.ofInt 1 := ⟨_, rfl⟩
          have t_20 : x_18.toInt = i_1.toInt + 1 := i_add rfl (by decide) (lg_X6_readTests_4 n_ta n_to n_tl n_bk i_1 n1 yq yk hi1_0 hmu1 t_3 h_5 h_15) ex_19
          refine lv_iinc (v := x_18) (lv' := [(2, .int x_18), (0, .ref h0), (1, .ref b0)]) hx hb dX6_readTests_28 hl (k := 0) rfl ex_19.symm (by decide) rfl ?_
          clear hl; intro ls hl
          refine lv_goto (tgt := 2) hx hb dX6_readTests_31 (by decide) ?_
          exact ih1 x_18 w_pr_16 w_nu_7 w_tests_8 w_thing_9 w_sign_10 w_number_11 H locs ls (lg_X6_readTests_5 n_ta n_to n_tl n_bk i_1 n1 x_18 yq yk hi1_0 hmu1 t_3 h_5 h_15 t_20) (lg_X6_readTests_6 n_ta n_to n_tl n_bk i_1 n1 x_18 yq yk hi1_0 hmu1 t_3 h_5 h_15 t_20) e_12  (lv_sub hl [0, 1, 2] rfl) (hP.sub [5, 6, 7, 0, 1, 2, 3, 4] rfl) (hD.sub [5, 6, 7, 0, 1, 2, 3, 4] (by decide) rfl) hS
        · refine lv_if_ne (tgt := 28) hx hb dX6_readTests_23 (by decide) (fun c_21 => absurd (by decide) c_21) ?_
          intro _
          refine lv_iconst (v := 1) hx hb dX6_readTests_26 (by decide) ?_
          refine W.widen (k := 0) (n := 0) (Nat.le_of_ble_eq_true rfl) (Nat.le_of_ble_eq_true rfl) ?_
          have hP9 := hP.sub (ws' := [(h0, .inr (6, [.ref d_tape, .int w_pr_16, .int w_nu_7])), (d_tape, .inr (9, [.ref p_bytes, .ref p_ts, .ref p_tc, .int n_ta, .int n_to, .int n_tl])), (p_tc, .inl (k_tc, 600, .inl f_tc)), (b0, .inr (5, [.ref b_deed, .ref b_value, .ref b_tests, .ref b_thing, .ref b_sign, .ref b_number, .int n_bk])), (b_tests, .inl (k_bi, 16, .inl w_tests_8)), (b_thing, .inl (k_bi, 48, .inl w_thing_9)), (b_sign, .inl (k_bi, 48, .inl w_sign_10)), (b_number, .inl (k_bi, 48, .inl w_number_11))]) [5, 6, 7, 0, 1, 2, 3, 4] rfl
          have hD9 := hD.sub (ws' := [(h0, .inr (6, [.ref d_tape, .int w_pr_16, .int w_nu_7])), (d_tape, .inr (9, [.ref p_bytes, .ref p_ts, .ref p_tc, .int n_ta, .int n_to, .int n_tl])), (p_tc, .inl (k_tc, 600, .inl f_tc)), (b0, .inr (5, [.ref b_deed, .ref b_value, .ref b_tests, .ref b_thing, .ref b_sign, .ref b_number, .int n_bk])), (b_tests, .inl (k_bi, 16, .inl w_tests_8)), (b_thing, .inl (k_bi, 48, .inl w_thing_9)), (b_sign, .inl (k_bi, 48, .inl w_sign_10)), (b_number, .inl (k_bi, 48, .inl w_number_11))]) [5, 6, 7, 0, 1, 2, 3, 4] (by decide) rfl
          have hK9 := hK.sub (tys' := []) [] rfl
          exact W.zret (ty := .boolean) (v := 1) hx hb hr rfl (fun t ht hW => ⟨⟨1, (), rfl, (Or.inl ⟨rfl, (lg_X6_readTests_7 n_ta n_to n_tl n_bk i_1 n1 yq yk hi1_0 hmu1 t_3 h_5 h_15)⟩), ⟨w_pr_16, w_nu_7, w_tests_8, w_thing_9, w_sign_10, w_number_11, e_12, by rw [ht]; exact hP9, va_K.moved hW.alike hK9, hD9⟩⟩, hS.F ht⟩) hS.2.2 dX6_readTests_27
      · refine lv_if_ne (tgt := 17) hx hb dX6_readTests_12 (by decide) (fun c_22 => absurd (by decide) c_22) ?_
        intro _
        refine lv_iconst (v := 0) hx hb dX6_readTests_15 (by decide) ?_
        refine W.widen (k := 0) (n := 0) (Nat.le_of_ble_eq_true rfl) (Nat.le_of_ble_eq_true rfl) ?_
        have hP9 := hP.sub (ws' := [(h0, .inr (6, [.ref d_tape, .int w_pr_6, .int w_nu_7])), (d_tape, .inr (9, [.ref p_bytes, .ref p_ts, .ref p_tc, .int n_ta, .int n_to, .int n_tl])), (p_tc, .inl (k_tc, 600, .inl f_tc)), (b0, .inr (5, [.ref b_deed, .ref b_value, .ref b_tests, .ref b_thing, .ref b_sign, .ref b_number, .int n_bk])), (b_tests, .inl (k_bi, 16, .inl w_tests_8)), (b_thing, .inl (k_bi, 48, .inl w_thing_9)), (b_sign, .inl (k_bi, 48, .inl w_sign_10)), (b_number, .inl (k_bi, 48, .inl w_number_11))]) [0, 1, 2, 3, 4, 5, 6, 7] rfl
        have hD9 := hD.sub (ws' := [(h0, .inr (6, [.ref d_tape, .int w_pr_6, .int w_nu_7])), (d_tape, .inr (9, [.ref p_bytes, .ref p_ts, .ref p_tc, .int n_ta, .int n_to, .int n_tl])), (p_tc, .inl (k_tc, 600, .inl f_tc)), (b0, .inr (5, [.ref b_deed, .ref b_value, .ref b_tests, .ref b_thing, .ref b_sign, .ref b_number, .int n_bk])), (b_tests, .inl (k_bi, 16, .inl w_tests_8)), (b_thing, .inl (k_bi, 48, .inl w_thing_9)), (b_sign, .inl (k_bi, 48, .inl w_sign_10)), (b_number, .inl (k_bi, 48, .inl w_number_11))]) [0, 1, 2, 3, 4, 5, 6, 7] (by decide) rfl
        have hK9 := hK.sub (tys' := []) [] rfl
        exact W.zret (ty := .boolean) (v := 0) hx hb hr rfl (fun t ht hW => ⟨⟨0, (), rfl, (Or.inr (⟨rfl, (lg_X6_readTests_8 n_ta n_to n_tl n_bk i_1 n1 yq yk hi1_0 hmu1 t_3 h_5)⟩)), ⟨w_pr_6, w_nu_7, w_tests_8, w_thing_9, w_sign_10, w_number_11, e_12, by rw [ht]; exact hP9, va_K.moved hW.alike hK9, hD9⟩⟩, hS.F ht⟩) hS.2.2 dX6_readTests_16

theorem lg_X6_readStatement_0 (n_ta : Int32) (n_to : Int32) (n_tl : Int32) (n_bk : Int32) (w_bk_34 : Int32) (yq : 0 ≤ n_ta.toInt ∧ n_ta.toInt ≤ 600 ∧ 0 ≤ n_to.toInt ∧ n_to.toInt ≤ 600 ∧ 0 ≤ n_tl.toInt ∧ n_tl.toInt ≤ 600) (yk : 0 ≤ n_bk.toInt ∧ n_bk.toInt ≤ 16) (h_2 : True) (h_6 : True) (h_13 : True) (h_17 : True) (h_29 : True) (e_35 : 0 ≤ w_bk_34.toInt ∧ w_bk_34.toInt ≤ 16) : 0 ≤ w_bk_34.toInt ∧ w_bk_34.toInt ≤ 16 := by
  have := rg_rng n_ta; have := rg_rng n_to; have := rg_rng n_tl; have := rg_rng n_bk; have := rg_rng w_bk_34; omega
theorem lg_X6_readStatement_1 (n_ta : Int32) (n_to : Int32) (n_tl : Int32) (n_bk : Int32) (w_bk_34 : Int32) (yq : 0 ≤ n_ta.toInt ∧ n_ta.toInt ≤ 600 ∧ 0 ≤ n_to.toInt ∧ n_to.toInt ≤ 600 ∧ 0 ≤ n_tl.toInt ∧ n_tl.toInt ≤ 600) (yk : 0 ≤ n_bk.toInt ∧ n_bk.toInt ≤ 16) (h_2 : True) (h_6 : True) (h_13 : True) (h_17 : True) (h_29 : True) (e_35 : 0 ≤ w_bk_34.toInt ∧ w_bk_34.toInt ≤ 16) : True := by
  have := rg_rng n_ta; have := rg_rng n_to; have := rg_rng n_tl; have := rg_rng n_bk; have := rg_rng w_bk_34; first | trivial | omega
theorem lg_X6_readStatement_2 (n_ta : Int32) (n_to : Int32) (n_tl : Int32) (n_bk : Int32) (yq : 0 ≤ n_ta.toInt ∧ n_ta.toInt ≤ 600 ∧ 0 ≤ n_to.toInt ∧ n_to.toInt ≤ 600 ∧ 0 ≤ n_tl.toInt ∧ n_tl.toInt ≤ 600) (yk : 0 ≤ n_bk.toInt ∧ n_bk.toInt ≤ 16) (h_2 : True) (h_6 : True) (h_13 : True) (h_17 : True) (h_29 : True) : 0 ≤ n_bk.toInt ∧ n_bk.toInt ≤ 16 := by
  have := rg_rng n_ta; have := rg_rng n_to; have := rg_rng n_tl; have := rg_rng n_bk; omega
theorem lg_X6_readStatement_3 (n_ta : Int32) (n_to : Int32) (n_tl : Int32) (n_bk : Int32) (yq : 0 ≤ n_ta.toInt ∧ n_ta.toInt ≤ 600 ∧ 0 ≤ n_to.toInt ∧ n_to.toInt ≤ 600 ∧ 0 ≤ n_tl.toInt ∧ n_tl.toInt ≤ 600) (yk : 0 ≤ n_bk.toInt ∧ n_bk.toInt ≤ 16) (h_2 : True) (h_6 : True) (h_13 : True) (h_17 : True) (h_29 : True) : True := by
  have := rg_rng n_ta; have := rg_rng n_to; have := rg_rng n_tl; have := rg_rng n_bk; first | trivial | omega
theorem lg_X6_readStatement_4 (n_ta : Int32) (n_to : Int32) (n_tl : Int32) (n_bk : Int32) (yq : 0 ≤ n_ta.toInt ∧ n_ta.toInt ≤ 600 ∧ 0 ≤ n_to.toInt ∧ n_to.toInt ≤ 600 ∧ 0 ≤ n_tl.toInt ∧ n_tl.toInt ≤ 600) (yk : 0 ≤ n_bk.toInt ∧ n_bk.toInt ≤ 16) (h_2 : True) (h_6 : True) (h_13 : True) (h_17 : True) : 0 ≤ n_bk.toInt ∧ n_bk.toInt ≤ 16 := by
  have := rg_rng n_ta; have := rg_rng n_to; have := rg_rng n_tl; have := rg_rng n_bk; omega
theorem lg_X6_readStatement_5 (n_ta : Int32) (n_to : Int32) (n_tl : Int32) (n_bk : Int32) (yq : 0 ≤ n_ta.toInt ∧ n_ta.toInt ≤ 600 ∧ 0 ≤ n_to.toInt ∧ n_to.toInt ≤ 600 ∧ 0 ≤ n_tl.toInt ∧ n_tl.toInt ≤ 600) (yk : 0 ≤ n_bk.toInt ∧ n_bk.toInt ≤ 16) (h_2 : True) (h_6 : True) (h_13 : True) (h_17 : True) : True := by
  have := rg_rng n_ta; have := rg_rng n_to; have := rg_rng n_tl; have := rg_rng n_bk; first | trivial | omega
theorem lg_X6_readStatement_6 (n_ta : Int32) (n_to : Int32) (n_tl : Int32) (n_bk : Int32) (yq : 0 ≤ n_ta.toInt ∧ n_ta.toInt ≤ 600 ∧ 0 ≤ n_to.toInt ∧ n_to.toInt ≤ 600 ∧ 0 ≤ n_tl.toInt ∧ n_tl.toInt ≤ 600) (yk : 0 ≤ n_bk.toInt ∧ n_bk.toInt ≤ 16) (h_2 : True) (h_6 : True) (h_13 : True) : 0 ≤ n_bk.toInt ∧ n_bk.toInt ≤ 16 := by
  have := rg_rng n_ta; have := rg_rng n_to; have := rg_rng n_tl; have := rg_rng n_bk; omega
theorem lg_X6_readStatement_7 (n_ta : Int32) (n_to : Int32) (n_tl : Int32) (n_bk : Int32) (yq : 0 ≤ n_ta.toInt ∧ n_ta.toInt ≤ 600 ∧ 0 ≤ n_to.toInt ∧ n_to.toInt ≤ 600 ∧ 0 ≤ n_tl.toInt ∧ n_tl.toInt ≤ 600) (yk : 0 ≤ n_bk.toInt ∧ n_bk.toInt ≤ 16) (h_2 : True) (h_6 : True) (h_13 : True) : True := by
  have := rg_rng n_ta; have := rg_rng n_to; have := rg_rng n_tl; have := rg_rng n_bk; first | trivial | omega
theorem lg_X6_readStatement_8 (n_ta : Int32) (n_to : Int32) (n_tl : Int32) (n_bk : Int32) (yq : 0 ≤ n_ta.toInt ∧ n_ta.toInt ≤ 600 ∧ 0 ≤ n_to.toInt ∧ n_to.toInt ≤ 600 ∧ 0 ≤ n_tl.toInt ∧ n_tl.toInt ≤ 600) (yk : 0 ≤ n_bk.toInt ∧ n_bk.toInt ≤ 16) (h_2 : True) (h_6 : True) : 0 ≤ n_bk.toInt ∧ n_bk.toInt ≤ 16 := by
  have := rg_rng n_ta; have := rg_rng n_to; have := rg_rng n_tl; have := rg_rng n_bk; omega
theorem lg_X6_readStatement_9 (n_ta : Int32) (n_to : Int32) (n_tl : Int32) (n_bk : Int32) (yq : 0 ≤ n_ta.toInt ∧ n_ta.toInt ≤ 600 ∧ 0 ≤ n_to.toInt ∧ n_to.toInt ≤ 600 ∧ 0 ≤ n_tl.toInt ∧ n_tl.toInt ≤ 600) (yk : 0 ≤ n_bk.toInt ∧ n_bk.toInt ≤ 16) (h_2 : True) (h_6 : True) : True := by
  have := rg_rng n_ta; have := rg_rng n_to; have := rg_rng n_tl; have := rg_rng n_bk; first | trivial | omega
theorem lg_X6_readStatement_10 (n_ta : Int32) (n_to : Int32) (n_tl : Int32) (n_bk : Int32) (w_bk_83 : Int32) (yq : 0 ≤ n_ta.toInt ∧ n_ta.toInt ≤ 600 ∧ 0 ≤ n_to.toInt ∧ n_to.toInt ≤ 600 ∧ 0 ≤ n_tl.toInt ∧ n_tl.toInt ≤ 600) (yk : 0 ≤ n_bk.toInt ∧ n_bk.toInt ≤ 16) (h_2 : True) (h_42 : True) (h_46 : True) (h_51 : True) (h_55 : True) (h_66 : True) (h_70 : True) (h_78 : True) (e_84 : 0 ≤ w_bk_83.toInt ∧ w_bk_83.toInt ≤ 16) : 0 ≤ w_bk_83.toInt ∧ w_bk_83.toInt ≤ 16 := by
  have := rg_rng n_ta; have := rg_rng n_to; have := rg_rng n_tl; have := rg_rng n_bk; have := rg_rng w_bk_83; omega
theorem lg_X6_readStatement_11 (n_ta : Int32) (n_to : Int32) (n_tl : Int32) (n_bk : Int32) (w_bk_83 : Int32) (yq : 0 ≤ n_ta.toInt ∧ n_ta.toInt ≤ 600 ∧ 0 ≤ n_to.toInt ∧ n_to.toInt ≤ 600 ∧ 0 ≤ n_tl.toInt ∧ n_tl.toInt ≤ 600) (yk : 0 ≤ n_bk.toInt ∧ n_bk.toInt ≤ 16) (h_2 : True) (h_42 : True) (h_46 : True) (h_51 : True) (h_55 : True) (h_66 : True) (h_70 : True) (h_78 : True) (e_84 : 0 ≤ w_bk_83.toInt ∧ w_bk_83.toInt ≤ 16) : True := by
  have := rg_rng n_ta; have := rg_rng n_to; have := rg_rng n_tl; have := rg_rng n_bk; have := rg_rng w_bk_83; first | trivial | omega
theorem lg_X6_readStatement_12 (n_ta : Int32) (n_to : Int32) (n_tl : Int32) (n_bk : Int32) (yq : 0 ≤ n_ta.toInt ∧ n_ta.toInt ≤ 600 ∧ 0 ≤ n_to.toInt ∧ n_to.toInt ≤ 600 ∧ 0 ≤ n_tl.toInt ∧ n_tl.toInt ≤ 600) (yk : 0 ≤ n_bk.toInt ∧ n_bk.toInt ≤ 16) (h_2 : True) (h_42 : True) (h_46 : True) (h_51 : True) (h_55 : True) (h_66 : True) (h_70 : True) (h_78 : True) : 0 ≤ n_bk.toInt ∧ n_bk.toInt ≤ 16 := by
  have := rg_rng n_ta; have := rg_rng n_to; have := rg_rng n_tl; have := rg_rng n_bk; omega
theorem lg_X6_readStatement_13 (n_ta : Int32) (n_to : Int32) (n_tl : Int32) (n_bk : Int32) (yq : 0 ≤ n_ta.toInt ∧ n_ta.toInt ≤ 600 ∧ 0 ≤ n_to.toInt ∧ n_to.toInt ≤ 600 ∧ 0 ≤ n_tl.toInt ∧ n_tl.toInt ≤ 600) (yk : 0 ≤ n_bk.toInt ∧ n_bk.toInt ≤ 16) (h_2 : True) (h_42 : True) (h_46 : True) (h_51 : True) (h_55 : True) (h_66 : True) (h_70 : True) (h_78 : True) : True := by
  have := rg_rng n_ta; have := rg_rng n_to; have := rg_rng n_tl; have := rg_rng n_bk; first | trivial | omega
theorem lg_X6_readStatement_14 (n_ta : Int32) (n_to : Int32) (n_tl : Int32) (n_bk : Int32) (yq : 0 ≤ n_ta.toInt ∧ n_ta.toInt ≤ 600 ∧ 0 ≤ n_to.toInt ∧ n_to.toInt ≤ 600 ∧ 0 ≤ n_tl.toInt ∧ n_tl.toInt ≤ 600) (yk : 0 ≤ n_bk.toInt ∧ n_bk.toInt ≤ 16) (h_2 : True) (h_42 : True) (h_46 : True) (h_51 : True) (h_55 : True) (h_66 : True) (h_70 : True) : 0 ≤ n_bk.toInt ∧ n_bk.toInt ≤ 16 := by
  have := rg_rng n_ta; have := rg_rng n_to; have := rg_rng n_tl; have := rg_rng n_bk; omega
theorem lg_X6_readStatement_15 (n_ta : Int32) (n_to : Int32) (n_tl : Int32) (n_bk : Int32) (yq : 0 ≤ n_ta.toInt ∧ n_ta.toInt ≤ 600 ∧ 0 ≤ n_to.toInt ∧ n_to.toInt ≤ 600 ∧ 0 ≤ n_tl.toInt ∧ n_tl.toInt ≤ 600) (yk : 0 ≤ n_bk.toInt ∧ n_bk.toInt ≤ 16) (h_2 : True) (h_42 : True) (h_46 : True) (h_51 : True) (h_55 : True) (h_66 : True) (h_70 : True) : True := by
  have := rg_rng n_ta; have := rg_rng n_to; have := rg_rng n_tl; have := rg_rng n_bk; first | trivial | omega
theorem lg_X6_readStatement_16 (n_ta : Int32) (n_to : Int32) (n_tl : Int32) (n_bk : Int32) (yq : 0 ≤ n_ta.toInt ∧ n_ta.toInt ≤ 600 ∧ 0 ≤ n_to.toInt ∧ n_to.toInt ≤ 600 ∧ 0 ≤ n_tl.toInt ∧ n_tl.toInt ≤ 600) (yk : 0 ≤ n_bk.toInt ∧ n_bk.toInt ≤ 16) (h_2 : True) (h_42 : True) (h_46 : True) (h_51 : True) (h_55 : True) (h_66 : True) : 0 ≤ n_bk.toInt ∧ n_bk.toInt ≤ 16 := by
  have := rg_rng n_ta; have := rg_rng n_to; have := rg_rng n_tl; have := rg_rng n_bk; omega
theorem lg_X6_readStatement_17 (n_ta : Int32) (n_to : Int32) (n_tl : Int32) (n_bk : Int32) (yq : 0 ≤ n_ta.toInt ∧ n_ta.toInt ≤ 600 ∧ 0 ≤ n_to.toInt ∧ n_to.toInt ≤ 600 ∧ 0 ≤ n_tl.toInt ∧ n_tl.toInt ≤ 600) (yk : 0 ≤ n_bk.toInt ∧ n_bk.toInt ≤ 16) (h_2 : True) (h_42 : True) (h_46 : True) (h_51 : True) (h_55 : True) (h_66 : True) : True := by
  have := rg_rng n_ta; have := rg_rng n_to; have := rg_rng n_tl; have := rg_rng n_bk; first | trivial | omega
theorem lg_X6_readStatement_18 (n_ta : Int32) (n_to : Int32) (n_tl : Int32) (n_bk : Int32) (yq : 0 ≤ n_ta.toInt ∧ n_ta.toInt ≤ 600 ∧ 0 ≤ n_to.toInt ∧ n_to.toInt ≤ 600 ∧ 0 ≤ n_tl.toInt ∧ n_tl.toInt ≤ 600) (yk : 0 ≤ n_bk.toInt ∧ n_bk.toInt ≤ 16) (h_2 : True) (h_42 : True) (h_46 : True) (h_51 : True) (h_55 : True) : 0 ≤ n_bk.toInt ∧ n_bk.toInt ≤ 16 := by
  have := rg_rng n_ta; have := rg_rng n_to; have := rg_rng n_tl; have := rg_rng n_bk; omega
theorem lg_X6_readStatement_19 (n_ta : Int32) (n_to : Int32) (n_tl : Int32) (n_bk : Int32) (yq : 0 ≤ n_ta.toInt ∧ n_ta.toInt ≤ 600 ∧ 0 ≤ n_to.toInt ∧ n_to.toInt ≤ 600 ∧ 0 ≤ n_tl.toInt ∧ n_tl.toInt ≤ 600) (yk : 0 ≤ n_bk.toInt ∧ n_bk.toInt ≤ 16) (h_2 : True) (h_42 : True) (h_46 : True) (h_51 : True) (h_55 : True) : True := by
  have := rg_rng n_ta; have := rg_rng n_to; have := rg_rng n_tl; have := rg_rng n_bk; first | trivial | omega
theorem lg_X6_readStatement_20 (n_ta : Int32) (n_to : Int32) (n_tl : Int32) (n_bk : Int32) (yq : 0 ≤ n_ta.toInt ∧ n_ta.toInt ≤ 600 ∧ 0 ≤ n_to.toInt ∧ n_to.toInt ≤ 600 ∧ 0 ≤ n_tl.toInt ∧ n_tl.toInt ≤ 600) (yk : 0 ≤ n_bk.toInt ∧ n_bk.toInt ≤ 16) (h_2 : True) (h_42 : True) (h_46 : True) (h_51 : True) : 0 ≤ n_bk.toInt ∧ n_bk.toInt ≤ 16 := by
  have := rg_rng n_ta; have := rg_rng n_to; have := rg_rng n_tl; have := rg_rng n_bk; omega
theorem lg_X6_readStatement_21 (n_ta : Int32) (n_to : Int32) (n_tl : Int32) (n_bk : Int32) (yq : 0 ≤ n_ta.toInt ∧ n_ta.toInt ≤ 600 ∧ 0 ≤ n_to.toInt ∧ n_to.toInt ≤ 600 ∧ 0 ≤ n_tl.toInt ∧ n_tl.toInt ≤ 600) (yk : 0 ≤ n_bk.toInt ∧ n_bk.toInt ≤ 16) (h_2 : True) (h_42 : True) (h_46 : True) (h_51 : True) : True := by
  have := rg_rng n_ta; have := rg_rng n_to; have := rg_rng n_tl; have := rg_rng n_bk; first | trivial | omega
theorem lg_X6_readStatement_22 (n_ta : Int32) (n_to : Int32) (n_tl : Int32) (n_bk : Int32) (yq : 0 ≤ n_ta.toInt ∧ n_ta.toInt ≤ 600 ∧ 0 ≤ n_to.toInt ∧ n_to.toInt ≤ 600 ∧ 0 ≤ n_tl.toInt ∧ n_tl.toInt ≤ 600) (yk : 0 ≤ n_bk.toInt ∧ n_bk.toInt ≤ 16) (h_2 : True) (h_42 : True) (h_46 : True) : 0 ≤ n_bk.toInt ∧ n_bk.toInt ≤ 16 := by
  have := rg_rng n_ta; have := rg_rng n_to; have := rg_rng n_tl; have := rg_rng n_bk; omega
theorem lg_X6_readStatement_23 (n_ta : Int32) (n_to : Int32) (n_tl : Int32) (n_bk : Int32) (yq : 0 ≤ n_ta.toInt ∧ n_ta.toInt ≤ 600 ∧ 0 ≤ n_to.toInt ∧ n_to.toInt ≤ 600 ∧ 0 ≤ n_tl.toInt ∧ n_tl.toInt ≤ 600) (yk : 0 ≤ n_bk.toInt ∧ n_bk.toInt ≤ 16) (h_2 : True) (h_42 : True) (h_46 : True) : True := by
  have := rg_rng n_ta; have := rg_rng n_to; have := rg_rng n_tl; have := rg_rng n_bk; first | trivial | omega
theorem lg_X6_readStatement_24 (n_ta : Int32) (n_to : Int32) (n_tl : Int32) (n_bk : Int32) (yq : 0 ≤ n_ta.toInt ∧ n_ta.toInt ≤ 600 ∧ 0 ≤ n_to.toInt ∧ n_to.toInt ≤ 600 ∧ 0 ≤ n_tl.toInt ∧ n_tl.toInt ≤ 600) (yk : 0 ≤ n_bk.toInt ∧ n_bk.toInt ≤ 16) (h_2 : True) (h_42 : True) : 0 ≤ n_bk.toInt ∧ n_bk.toInt ≤ 16 := by
  have := rg_rng n_ta; have := rg_rng n_to; have := rg_rng n_tl; have := rg_rng n_bk; omega
theorem lg_X6_readStatement_25 (n_ta : Int32) (n_to : Int32) (n_tl : Int32) (n_bk : Int32) (yq : 0 ≤ n_ta.toInt ∧ n_ta.toInt ≤ 600 ∧ 0 ≤ n_to.toInt ∧ n_to.toInt ≤ 600 ∧ 0 ≤ n_tl.toInt ∧ n_tl.toInt ≤ 600) (yk : 0 ≤ n_bk.toInt ∧ n_bk.toInt ≤ 16) (h_2 : True) (h_42 : True) : True := by
  have := rg_rng n_ta; have := rg_rng n_to; have := rg_rng n_tl; have := rg_rng n_bk; first | trivial | omega
set_option maxHeartbeats 4000000 in
set_option maxRecDepth 100000 in
theorem kX6_readStatement (l : Launch) (dC : Nat → ClassId) (dI : Nat → Nat → Nat) (sz : Nat) (h0 : Nat) (d_tape : Nat) (n_pr : Int32) (n_nu : Int32) (p_bytes : Nat) (p_ts : Nat) (p_tc : Nat) (n_ta : Int32) (n_to : Int32) (n_tl : Int32) (k_tc : ClassId) (f_tc : Nat → Int32) (b0 : Nat) (b_deed : Nat) (b_value : Nat) (b_tests : Nat) (b_thing : Nat) (b_sign : Nat) (b_number : Nat) (n_bk : Int32) (k_bi : ClassId) (f_deed : Nat → Int32) (f_value : Nat → Int32) (f_tests : Nat → Int32) (f_thing : Nat → Int32) (f_sign : Nat → Int32) (f_number : Nat → Int32) (yq : 0 ≤ n_ta.toInt ∧ n_ta.toInt ≤ 600 ∧ 0 ≤ n_to.toInt ∧ n_to.toInt ≤ 600 ∧ 0 ≤ n_tl.toInt ∧ n_tl.toInt ≤ 600) (yk : 0 ≤ n_bk.toInt ∧ n_bk.toInt ≤ 16) (yt : Rg f_tests 16 0 3) : Met l yX6_readStatement (Cond.code yX6_readStatement cX6_readStatement 5 (some .boolean) :: bg) ({ frames := 4, cells := 0, slots := 0, locals := 90 }) (pcW dC dI [.ref h0, .ref b0] sz [(h0, .inr (6, [.ref d_tape, .int n_pr, .int n_nu])), (d_tape, .inr (9, [.ref p_bytes, .ref p_ts, .ref p_tc, .int n_ta, .int n_to, .int n_tl])), (p_tc, .inl (k_tc, 600, .inl f_tc)), (b0, .inr (5, [.ref b_deed, .ref b_value, .ref b_tests, .ref b_thing, .ref b_sign, .ref b_number, .int n_bk])), (b_deed, .inl (k_bi, 16, .inl f_deed)), (b_value, .inl (k_bi, 16, .inl f_value)), (b_tests, .inl (k_bi, 16, .inl f_tests)), (b_thing, .inl (k_bi, 48, .inl f_thing)), (b_sign, .inl (k_bi, 48, .inl f_sign)), (b_number, .inl (k_bi, 48, .inl f_number))] [(k_tc, .int), (k_bi, .int)]) (va_Qi (fun (r : Int32) (u : Unit) => (r = 1 ∧ True) ∨ (r = 0 ∧ True)) (fun (u : Unit) (t : State) => ∃ (w_pr : Int32) (w_nu : Int32) (w_bk : Int32) (w_deed : Nat → Int32) (w_value : Nat → Int32) (w_tests : Nat → Int32) (w_thing : Nat → Int32) (w_sign : Nat → Int32) (w_number : Nat → Int32), Rg w_tests 16 0 3 ∧ (0 ≤ w_bk.toInt ∧ w_bk.toInt ≤ 16) ∧ va_P (dC, dI) vwCl [(h0, .inr (6, [.ref d_tape, .int w_pr, .int w_nu])), (d_tape, .inr (9, [.ref p_bytes, .ref p_ts, .ref p_tc, .int n_ta, .int n_to, .int n_tl])), (p_tc, .inl (k_tc, 600, .inl f_tc)), (b0, .inr (5, [.ref b_deed, .ref b_value, .ref b_tests, .ref b_thing, .ref b_sign, .ref b_number, .int w_bk])), (b_deed, .inl (k_bi, 16, .inl w_deed)), (b_value, .inl (k_bi, 16, .inl w_value)), (b_tests, .inl (k_bi, 16, .inl w_tests)), (b_thing, .inl (k_bi, 48, .inl w_thing)), (b_sign, .inl (k_bi, 48, .inl w_sign)), (b_number, .inl (k_bi, 48, .inl w_number))] t.heap ∧ va_K (dC, dI) vwCl [] t ∧ va_D (va_A [(h0, .inr (6, [.ref d_tape, .int n_pr, .int n_nu])), (d_tape, .inr (9, [.ref p_bytes, .ref p_ts, .ref p_tc, .int n_ta, .int n_to, .int n_tl])), (p_tc, .inl (k_tc, 600, .inl f_tc)), (b0, .inr (5, [.ref b_deed, .ref b_value, .ref b_tests, .ref b_thing, .ref b_sign, .ref b_number, .int n_bk])), (b_deed, .inl (k_bi, 16, .inl f_deed)), (b_value, .inl (k_bi, 16, .inl f_value)), (b_tests, .inl (k_bi, 16, .inl f_tests)), (b_thing, .inl (k_bi, 48, .inl f_thing)), (b_sign, .inl (k_bi, 48, .inl f_sign)), (b_number, .inl (k_bi, 48, .inl f_number))] sz) [(h0, .inr (6, [.ref d_tape, .int w_pr, .int w_nu])), (d_tape, .inr (9, [.ref p_bytes, .ref p_ts, .ref p_tc, .int n_ta, .int n_to, .int n_tl])), (p_tc, .inl (k_tc, 600, .inl f_tc)), (b0, .inr (5, [.ref b_deed, .ref b_value, .ref b_tests, .ref b_thing, .ref b_sign, .ref b_number, .int w_bk])), (b_deed, .inl (k_bi, 16, .inl w_deed)), (b_value, .inl (k_bi, 16, .inl w_value)), (b_tests, .inl (k_bi, 16, .inl w_tests)), (b_thing, .inl (k_bi, 48, .inl w_thing)), (b_sign, .inl (k_bi, 48, .inl w_sign)), (b_number, .inl (k_bi, 48, .inl w_number))]) (va_A [(h0, .inr (6, [.ref d_tape, .int n_pr, .int n_nu])), (d_tape, .inr (9, [.ref p_bytes, .ref p_ts, .ref p_tc, .int n_ta, .int n_to, .int n_tl])), (p_tc, .inl (k_tc, 600, .inl f_tc)), (b0, .inr (5, [.ref b_deed, .ref b_value, .ref b_tests, .ref b_thing, .ref b_sign, .ref b_number, .int n_bk])), (b_deed, .inl (k_bi, 16, .inl f_deed)), (b_value, .inl (k_bi, 16, .inl f_value)), (b_tests, .inl (k_bi, 16, .inl f_tests)), (b_thing, .inl (k_bi, 48, .inl f_thing)), (b_sign, .inl (k_bi, 48, .inl f_sign)), (b_number, .inl (k_bi, 48, .inl f_number))] sz)) 0 0 (va_A [(h0, .inr (6, [.ref d_tape, .int n_pr, .int n_nu])), (d_tape, .inr (9, [.ref p_bytes, .ref p_ts, .ref p_tc, .int n_ta, .int n_to, .int n_tl])), (p_tc, .inl (k_tc, 600, .inl f_tc)), (b0, .inr (5, [.ref b_deed, .ref b_value, .ref b_tests, .ref b_thing, .ref b_sign, .ref b_number, .int n_bk])), (b_deed, .inl (k_bi, 16, .inl f_deed)), (b_value, .inl (k_bi, 16, .inl f_value)), (b_tests, .inl (k_bi, 16, .inl f_tests)), (b_thing, .inl (k_bi, 48, .inl f_thing)), (b_sign, .inl (k_bi, 48, .inl f_sign)), (b_number, .inl (k_bi, 48, .inl f_number))] sz) := by
  refine Met.ofW (cc := cX6_readStatement) (maxL := 5) (ret := (some .boolean)) pnX6 rfl ?_
  intro p e s m args below meth c s₁ B hml hv
  obtain ⟨rfl, hsz, hP, hK, hD0, hN⟩ := hv
  have hx := B.exec
  have hb := B.bytes
  have hr := B.returns
  have htb : ∀ w ∈ bg, w.before [.ref h0, .ref b0].toArray s = true := fun w h => atoms_spec (ws := Cond.code yX6_readStatement cX6_readStatement 5 (some .boolean) :: bg) B.pre w (List.mem_cons_of_mem _ h)
  have hown : s.vm.findClass RX6 = some m.cls := findClass_of_methodNamed B.named
  have hlocks := B.notSynchronized
  subst hsz
  have hD := hD0.self (sz := s.heap.size)
  generalize hAe : va_A [(h0, .inr (6, [.ref d_tape, .int n_pr, .int n_nu])), (d_tape, .inr (9, [.ref p_bytes, .ref p_ts, .ref p_tc, .int n_ta, .int n_to, .int n_tl])), (p_tc, .inl (k_tc, 600, .inl f_tc)), (b0, .inr (5, [.ref b_deed, .ref b_value, .ref b_tests, .ref b_thing, .ref b_sign, .ref b_number, .int n_bk])), (b_deed, .inl (k_bi, 16, .inl f_deed)), (b_value, .inl (k_bi, 16, .inl f_value)), (b_tests, .inl (k_bi, 16, .inl f_tests)), (b_thing, .inl (k_bi, 48, .inl f_thing)), (b_sign, .inl (k_bi, 48, .inl f_sign)), (b_number, .inl (k_bi, 48, .inl f_number))] s.heap.size = A at hD ⊢
  have hA : ∀ q : Nat, s.heap.size ≤ q → A q := fun q h => by rw [← hAe]; exact Or.inr h
  have hS : va_S A s.heap s.heap [] := va_S.rf
  have hl := lv_entry ([.ref h0, .ref b0]) (n := 5) (Nat.le_of_ble_eq_true rfl)
  rw [lg_entry_eq]
  generalize (lg_sl ([.ref h0, .ref b0]) ++ List.replicate (5 - (lg_sl ([.ref h0, .ref b0])).length) Slot.unset).toArray = ls at hl ⊢
  change lv_has ls 5 [(0, .ref h0), (1, .ref b0)] at hl
  clear hD0 hAe
  refine go0 (wsP := fun H => va_P (dC, dI) vwCl [(h0, .inr (6, [.ref d_tape, .int n_pr, .int n_nu])), (d_tape, .inr (9, [.ref p_bytes, .ref p_ts, .ref p_tc, .int n_ta, .int n_to, .int n_tl])), (p_tc, .inl (k_tc, 600, .inl f_tc)), (b0, .inr (5, [.ref b_deed, .ref b_value, .ref b_tests, .ref b_thing, .ref b_sign, .ref b_number, .int n_bk])), (b_deed, .inl (k_bi, 16, .inl f_deed)), (b_value, .inl (k_bi, 16, .inl f_value)), (b_tests, .inl (k_bi, 16, .inl f_tests)), (b_thing, .inl (k_bi, 48, .inl f_thing)), (b_sign, .inl (k_bi, 48, .inl f_sign)), (b_number, .inl (k_bi, 48, .inl f_number))] H) hP hS ?_
  clear hP hS; intro H locs hP hS
  change va_P (dC, dI) vwCl [(h0, .inr (6, [.ref d_tape, .int n_pr, .int n_nu])), (d_tape, .inr (9, [.ref p_bytes, .ref p_ts, .ref p_tc, .int n_ta, .int n_to, .int n_tl])), (p_tc, .inl (k_tc, 600, .inl f_tc)), (b0, .inr (5, [.ref b_deed, .ref b_value, .ref b_tests, .ref b_thing, .ref b_sign, .ref b_number, .int n_bk])), (b_deed, .inl (k_bi, 16, .inl f_deed)), (b_value, .inl (k_bi, 16, .inl f_value)), (b_tests, .inl (k_bi, 16, .inl f_tests)), (b_thing, .inl (k_bi, 48, .inl f_thing)), (b_sign, .inl (k_bi, 48, .inl f_sign)), (b_number, .inl (k_bi, 48, .inl f_number))] H at hP
  refine lv_aload_n hx hb dX6_readStatement_0 rfl (lv_at hl 0 rfl) ?_
  refine lv_bipush (v := 12) hx hb dX6_readStatement_1 (by decide) ?_
  have hPc := hP.sub (ws' := [(h0, .inr (6, [.ref d_tape, .int n_pr, .int n_nu])), (d_tape, .inr (9, [.ref p_bytes, .ref p_ts, .ref p_tc, .int n_ta, .int n_to, .int n_tl])), (p_tc, .inl (k_tc, 600, .inl f_tc))]) [0, 1, 2] rfl
  have hDc := hD.sub (ws' := [(h0, .inr (6, [.ref d_tape, .int n_pr, .int n_nu])), (d_tape, .inr (9, [.ref p_bytes, .ref p_ts, .ref p_tc, .int n_ta, .int n_to, .int n_tl])), (p_tc, .inl (k_tc, 600, .inl f_tc))]) [0, 1, 2] (by decide) rfl
  have hKc := hK.sub (tys' := [(k_tc, .int)]) [0] rfl
  have hFc := va_free (wc := [(h0, .inr (6, [.ref d_tape, .int n_pr, .int n_nu])), (d_tape, .inr (9, [.ref p_bytes, .ref p_ts, .ref p_tc, .int n_ta, .int n_to, .int n_tl])), (p_tc, .inl (k_tc, 600, .inl f_tc))]) hD hS hA [0, 1, 2] rfl
  refine va_calli (va_runV (C := RX6) (As := [.int 12]) (rest := []) ⟨hx, hb, hml, hown, htb⟩ (kX6_take l dC dI H.size h0 d_tape n_pr n_nu p_bytes p_ts p_tc n_ta n_to n_tl k_tc f_tc 12 yq) ⟨callB_of 1 htb (gd_c m_922) rfl rfl rfl (htb _ m_11) (htb _ m_919) hdX6_take ⟨(Nat.le_of_ble_eq_true rfl), (Nat.le_of_ble_eq_true rfl)⟩, htb _ m_921, htb _ ms_24⟩ ⟨pcW_blind, va_recv hKc hPc (ci := 6) (q0 := 0) rfl rfl, pcW_at hPc hKc hDc hN⟩ rfl rfl hl.1 rfl (lv_room (Nat.le_of_ble_eq_true rfl)) dX6_readStatement_3 ⟨(Nat.le_of_ble_eq_true rfl), (Nat.le_of_ble_eq_true rfl)⟩) hS (fun q _ h => hFc q h) hFc (fun r_1 u t H1 locs1 ht hvm h_2 hB hz1 hk1 hS1 => ?_)
  obtain ⟨w_pr_3, hP1, hK1, hD1⟩ := hB
  rw [ht] at hP1
  obtain ⟨hPn, hDn⟩ := va_join (wr := [(b0, .inr (5, [.ref b_deed, .ref b_value, .ref b_tests, .ref b_thing, .ref b_sign, .ref b_number, .int n_bk])), (b_deed, .inl (k_bi, 16, .inl f_deed)), (b_value, .inl (k_bi, 16, .inl f_value)), (b_tests, .inl (k_bi, 16, .inl f_tests)), (b_thing, .inl (k_bi, 48, .inl f_thing)), (b_sign, .inl (k_bi, 48, .inl f_sign)), (b_number, .inl (k_bi, 48, .inl f_number))]) (w1 := [(h0, .inr (6, [.ref d_tape, .int w_pr_3, .int n_nu])), (d_tape, .inr (9, [.ref p_bytes, .ref p_ts, .ref p_tc, .int n_ta, .int n_to, .int n_tl])), (p_tc, .inl (k_tc, 600, .inl f_tc))]) hP hD [0, 1, 2] [3, 4, 5, 6, 7, 8, 9] rfl rfl (by decide) (by decide) hk1 hFc hP1 hD1
  clear hP1 hD1 hK1
  clear hP hD hS hPc hDc hKc hFc hk1 hz1 ht hvm
  clear t
  revert hS1 hPn hDn; generalize H1 = H; generalize locs1 = locs; intro hS hP hD
  change va_P (dC, dI) vwCl [(b0, .inr (5, [.ref b_deed, .ref b_value, .ref b_tests, .ref b_thing, .ref b_sign, .ref b_number, .int n_bk])), (b_deed, .inl (k_bi, 16, .inl f_deed)), (b_value, .inl (k_bi, 16, .inl f_value)), (b_tests, .inl (k_bi, 16, .inl f_tests)), (b_thing, .inl (k_bi, 48, .inl f_thing)), (b_sign, .inl (k_bi, 48, .inl f_sign)), (b_number, .inl (k_bi, 48, .inl f_number)), (h0, .inr (6, [.ref d_tape, .int w_pr_3, .int n_nu])), (d_tape, .inr (9, [.ref p_bytes, .ref p_ts, .ref p_tc, .int n_ta, .int n_to, .int n_tl])), (p_tc, .inl (k_tc, 600, .inl f_tc))] H at hP
  change va_D A [(b0, .inr (5, [.ref b_deed, .ref b_value, .ref b_tests, .ref b_thing, .ref b_sign, .ref b_number, .int n_bk])), (b_deed, .inl (k_bi, 16, .inl f_deed)), (b_value, .inl (k_bi, 16, .inl f_value)), (b_tests, .inl (k_bi, 16, .inl f_tests)), (b_thing, .inl (k_bi, 48, .inl f_thing)), (b_sign, .inl (k_bi, 48, .inl f_sign)), (b_number, .inl (k_bi, 48, .inl f_number)), (h0, .inr (6, [.ref d_tape, .int w_pr_3, .int n_nu])), (d_tape, .inr (9, [.ref p_bytes, .ref p_ts, .ref p_tc, .int n_ta, .int n_to, .int n_tl])), (p_tc, .inl (k_tc, 600, .inl f_tc))] at hD
  rcases h_2 with ⟨rfl, h_2⟩ | ⟨rfl, h_2⟩
  · refine lv_istore_n (lv' := [(2, .int 1), (0, .ref h0), (1, .ref b0)]) hx hb dX6_readStatement_6 rfl hl (by decide) rfl ?_
    clear hl; intro ls hl
    refine lv_iload_n hx hb dX6_readStatement_7 rfl (lv_at hl 0 rfl) ?_
    refine lv_if_eq (tgt := 22) hx hb dX6_readStatement_8 (by decide) (fun c_4 => absurd c_4 (by decide)) ?_
    intro _
    refine lv_aload_n hx hb dX6_readStatement_11 rfl (lv_at hl 1 rfl) ?_
    refine lv_bipush (v := 12) hx hb dX6_readStatement_12 (by decide) ?_
    refine lv_iconst (v := 4) hx hb dX6_readStatement_14 (by decide) ?_
    refine lv_aload_n hx hb dX6_readStatement_15 rfl (lv_at hl 2 rfl) ?_
    have hPc := hP.sub (ws' := [(h0, .inr (6, [.ref d_tape, .int w_pr_3, .int n_nu])), (d_tape, .inr (9, [.ref p_bytes, .ref p_ts, .ref p_tc, .int n_ta, .int n_to, .int n_tl])), (p_tc, .inl (k_tc, 600, .inl f_tc)), (b0, .inr (5, [.ref b_deed, .ref b_value, .ref b_tests, .ref b_thing, .ref b_sign, .ref b_number, .int n_bk])), (b_deed, .inl (k_bi, 16, .inl f_deed)), (b_value, .inl (k_bi, 16, .inl f_value))]) [7, 8, 9, 0, 1, 2] rfl
    have hDc := hD.sub (ws' := [(h0, .inr (6, [.ref d_tape, .int w_pr_3, .int n_nu])), (d_tape, .inr (9, [.ref p_bytes, .ref p_ts, .ref p_tc, .int n_ta, .int n_to, .int n_tl])), (p_tc, .inl (k_tc, 600, .inl f_tc)), (b0, .inr (5, [.ref b_deed, .ref b_value, .ref b_tests, .ref b_thing, .ref b_sign, .ref b_number, .int n_bk])), (b_deed, .inl (k_bi, 16, .inl f_deed)), (b_value, .inl (k_bi, 16, .inl f_value))]) [7, 8, 9, 0, 1, 2] (by decide) rfl
    have hKc := hK.sub (tys' := [(k_tc, .int), (k_bi, .int)]) [0, 1] rfl
    have hFc := va_free (wc := [(h0, .inr (6, [.ref d_tape, .int w_pr_3, .int n_nu])), (d_tape, .inr (9, [.ref p_bytes, .ref p_ts, .ref p_tc, .int n_ta, .int n_to, .int n_tl])), (p_tc, .inl (k_tc, 600, .inl f_tc)), (b0, .inr (5, [.ref b_deed, .ref b_value, .ref b_tests, .ref b_thing, .ref b_sign, .ref b_number, .int n_bk])), (b_deed, .inl (k_bi, 16, .inl f_deed)), (b_value, .inl (k_bi, 16, .inl f_value))]) hD hS hA [7, 8, 9, 0, 1, 2] rfl
    refine va_calli (va_runV (C := RX6) (As := [.int 12, .int 4, .ref b0]) (rest := []) ⟨hx, hb, hml, hown, htb⟩ (kX6_readDeedNumber l dC dI H.size h0 d_tape w_pr_3 n_nu p_bytes p_ts p_tc n_ta n_to n_tl k_tc f_tc b0 b_deed b_value b_tests b_thing b_sign b_number n_bk k_bi f_deed f_value 12 4 yq yk) ⟨callB_of 3 htb (gd_c m_930) rfl rfl rfl (htb _ m_11) (htb _ m_927) hdX6_readDeedNumber ⟨(Nat.le_of_ble_eq_true rfl), (Nat.le_of_ble_eq_true rfl)⟩, htb _ m_929, htb _ ms_25⟩ ⟨pcW_blind, va_recv hKc hPc (ci := 6) (q0 := 0) rfl rfl, pcW_at hPc hKc hDc hN⟩ rfl rfl hl.1 rfl (lv_room (Nat.le_of_ble_eq_true rfl)) dX6_readStatement_16 ⟨(Nat.le_of_ble_eq_true rfl), (Nat.le_of_ble_eq_true rfl)⟩) hS (fun q _ h => hFc q h) hFc (fun r_5 u t H1 locs1 ht hvm h_6 hB hz1 hk1 hS1 => ?_)
    obtain ⟨w_pr_7, w_nu_8, w_deed_9, w_value_10, hP1, hK1, hD1⟩ := hB
    rw [ht] at hP1
    obtain ⟨hPn, hDn⟩ := va_join (wr := [(b_tests, .inl (k_bi, 16, .inl f_tests)), (b_thing, .inl (k_bi, 48, .inl f_thing)), (b_sign, .inl (k_bi, 48, .inl f_sign)), (b_number, .inl (k_bi, 48, .inl f_number))]) (w1 := [(h0, .inr (6, [.ref d_tape, .int w_pr_7, .int w_nu_8])), (d_tape, .inr (9, [.ref p_bytes, .ref p_ts, .ref p_tc, .int n_ta, .int n_to, .int n_tl])), (p_tc, .inl (k_tc, 600, .inl f_tc)), (b0, .inr (5, [.ref b_deed, .ref b_value, .ref b_tests, .ref b_thing, .ref b_sign, .ref b_number, .int n_bk])), (b_deed, .inl (k_bi, 16, .inl w_deed_9)), (b_value, .inl (k_bi, 16, .inl w_value_10))]) hP hD [7, 8, 9, 0, 1, 2] [3, 4, 5, 6] rfl rfl (by decide) (by decide) hk1 hFc hP1 hD1
    clear hP1 hD1 hK1
    clear hP hD hS hPc hDc hKc hFc hk1 hz1 ht hvm
    clear t
    revert hS1 hPn hDn; generalize H1 = H; generalize locs1 = locs; intro hS hP hD
    change va_P (dC, dI) vwCl [(b_tests, .inl (k_bi, 16, .inl f_tests)), (b_thing, .inl (k_bi, 48, .inl f_thing)), (b_sign, .inl (k_bi, 48, .inl f_sign)), (b_number, .inl (k_bi, 48, .inl f_number)), (h0, .inr (6, [.ref d_tape, .int w_pr_7, .int w_nu_8])), (d_tape, .inr (9, [.ref p_bytes, .ref p_ts, .ref p_tc, .int n_ta, .int n_to, .int n_tl])), (p_tc, .inl (k_tc, 600, .inl f_tc)), (b0, .inr (5, [.ref b_deed, .ref b_value, .ref b_tests, .ref b_thing, .ref b_sign, .ref b_number, .int n_bk])), (b_deed, .inl (k_bi, 16, .inl w_deed_9)), (b_value, .inl (k_bi, 16, .inl w_value_10))] H at hP
    change va_D A [(b_tests, .inl (k_bi, 16, .inl f_tests)), (b_thing, .inl (k_bi, 48, .inl f_thing)), (b_sign, .inl (k_bi, 48, .inl f_sign)), (b_number, .inl (k_bi, 48, .inl f_number)), (h0, .inr (6, [.ref d_tape, .int w_pr_7, .int w_nu_8])), (d_tape, .inr (9, [.ref p_bytes, .ref p_ts, .ref p_tc, .int n_ta, .int n_to, .int n_tl])), (p_tc, .inl (k_tc, 600, .inl f_tc)), (b0, .inr (5, [.ref b_deed, .ref b_value, .ref b_tests, .ref b_thing, .ref b_sign, .ref b_number, .int n_bk])), (b_deed, .inl (k_bi, 16, .inl w_deed_9)), (b_value, .inl (k_bi, 16, .inl w_value_10))] at hD
    rcases h_6 with ⟨rfl, h_6⟩ | ⟨rfl, h_6⟩
    · refine lv_goto (tgt := 45) hx hb dX6_readStatement_19 (by decide) ?_
      refine lv_istore_n (lv' := [(3, .int 1), (2, .int 1), (0, .ref h0), (1, .ref b0)]) hx hb dX6_readStatement_45 rfl hl (by decide) rfl ?_
      clear hl; intro ls hl
      refine lv_iload_n hx hb dX6_readStatement_46 rfl (lv_at hl 0 rfl) ?_
      refine lv_if_eq (tgt := 67) hx hb dX6_readStatement_47 (by decide) (fun c_11 => absurd c_11 (by decide)) ?_
      intro _
      refine lv_aload_n hx hb dX6_readStatement_50 rfl (lv_at hl 2 rfl) ?_
      refine lv_bipush (v := 8) hx hb dX6_readStatement_51 (by decide) ?_
      have hPc := hP.sub (ws' := [(h0, .inr (6, [.ref d_tape, .int w_pr_7, .int w_nu_8])), (d_tape, .inr (9, [.ref p_bytes, .ref p_ts, .ref p_tc, .int n_ta, .int n_to, .int n_tl])), (p_tc, .inl (k_tc, 600, .inl f_tc))]) [4, 5, 6] rfl
      have hDc := hD.sub (ws' := [(h0, .inr (6, [.ref d_tape, .int w_pr_7, .int w_nu_8])), (d_tape, .inr (9, [.ref p_bytes, .ref p_ts, .ref p_tc, .int n_ta, .int n_to, .int n_tl])), (p_tc, .inl (k_tc, 600, .inl f_tc))]) [4, 5, 6] (by decide) rfl
      have hKc := hK.sub (tys' := [(k_tc, .int)]) [0] rfl
      have hFc := va_free (wc := [(h0, .inr (6, [.ref d_tape, .int w_pr_7, .int w_nu_8])), (d_tape, .inr (9, [.ref p_bytes, .ref p_ts, .ref p_tc, .int n_ta, .int n_to, .int n_tl])), (p_tc, .inl (k_tc, 600, .inl f_tc))]) hD hS hA [4, 5, 6] rfl
      refine va_calli (va_runV (C := RX6) (As := [.int 8]) (rest := []) ⟨hx, hb, hml, hown, htb⟩ (kX6_take l dC dI H.size h0 d_tape w_pr_7 w_nu_8 p_bytes p_ts p_tc n_ta n_to n_tl k_tc f_tc 8 yq) ⟨callB_of 1 htb (gd_c m_922) rfl rfl rfl (htb _ m_11) (htb _ m_919) hdX6_take ⟨(Nat.le_of_ble_eq_true rfl), (Nat.le_of_ble_eq_true rfl)⟩, htb _ m_921, htb _ ms_24⟩ ⟨pcW_blind, va_recv hKc hPc (ci := 6) (q0 := 0) rfl rfl, pcW_at hPc hKc hDc hN⟩ rfl rfl hl.1 rfl (lv_room (Nat.le_of_ble_eq_true rfl)) dX6_readStatement_53 ⟨(Nat.le_of_ble_eq_true rfl), (Nat.le_of_ble_eq_true rfl)⟩) hS (fun q _ h => hFc q h) hFc (fun r_12 u t H1 locs1 ht hvm h_13 hB hz1 hk1 hS1 => ?_)
      obtain ⟨w_pr_14, hP1, hK1, hD1⟩ := hB
      rw [ht] at hP1
      obtain ⟨hPn, hDn⟩ := va_join (wr := [(b_tests, .inl (k_bi, 16, .inl f_tests)), (b_thing, .inl (k_bi, 48, .inl f_thing)), (b_sign, .inl (k_bi, 48, .inl f_sign)), (b_number, .inl (k_bi, 48, .inl f_number)), (b0, .inr (5, [.ref b_deed, .ref b_value, .ref b_tests, .ref b_thing, .ref b_sign, .ref b_number, .int n_bk])), (b_deed, .inl (k_bi, 16, .inl w_deed_9)), (b_value, .inl (k_bi, 16, .inl w_value_10))]) (w1 := [(h0, .inr (6, [.ref d_tape, .int w_pr_14, .int w_nu_8])), (d_tape, .inr (9, [.ref p_bytes, .ref p_ts, .ref p_tc, .int n_ta, .int n_to, .int n_tl])), (p_tc, .inl (k_tc, 600, .inl f_tc))]) hP hD [4, 5, 6] [0, 1, 2, 3, 7, 8, 9] rfl rfl (by decide) (by decide) hk1 hFc hP1 hD1
      clear hP1 hD1 hK1
      clear hP hD hS hPc hDc hKc hFc hk1 hz1 ht hvm
      clear t
      revert hS1 hPn hDn; generalize H1 = H; generalize locs1 = locs; intro hS hP hD
      change va_P (dC, dI) vwCl [(b_tests, .inl (k_bi, 16, .inl f_tests)), (b_thing, .inl (k_bi, 48, .inl f_thing)), (b_sign, .inl (k_bi, 48, .inl f_sign)), (b_number, .inl (k_bi, 48, .inl f_number)), (b0, .inr (5, [.ref b_deed, .ref b_value, .ref b_tests, .ref b_thing, .ref b_sign, .ref b_number, .int n_bk])), (b_deed, .inl (k_bi, 16, .inl w_deed_9)), (b_value, .inl (k_bi, 16, .inl w_value_10)), (h0, .inr (6, [.ref d_tape, .int w_pr_14, .int w_nu_8])), (d_tape, .inr (9, [.ref p_bytes, .ref p_ts, .ref p_tc, .int n_ta, .int n_to, .int n_tl])), (p_tc, .inl (k_tc, 600, .inl f_tc))] H at hP
      change va_D A [(b_tests, .inl (k_bi, 16, .inl f_tests)), (b_thing, .inl (k_bi, 48, .inl f_thing)), (b_sign, .inl (k_bi, 48, .inl f_sign)), (b_number, .inl (k_bi, 48, .inl f_number)), (b0, .inr (5, [.ref b_deed, .ref b_value, .ref b_tests, .ref b_thing, .ref b_sign, .ref b_number, .int n_bk])), (b_deed, .inl (k_bi, 16, .inl w_deed_9)), (b_value, .inl (k_bi, 16, .inl w_value_10)), (h0, .inr (6, [.ref d_tape, .int w_pr_14, .int w_nu_8])), (d_tape, .inr (9, [.ref p_bytes, .ref p_ts, .ref p_tc, .int n_ta, .int n_to, .int n_tl])), (p_tc, .inl (k_tc, 600, .inl f_tc))] at hD
      rcases h_13 with ⟨rfl, h_13⟩ | ⟨rfl, h_13⟩
      · refine lv_if_eq (tgt := 67) hx hb dX6_readStatement_56 (by decide) (fun c_15 => absurd c_15 (by decide)) ?_
        intro _
        refine lv_aload_n hx hb dX6_readStatement_59 rfl (lv_at hl 2 rfl) ?_
        refine lv_aload_n hx hb dX6_readStatement_60 rfl (lv_at hl 3 rfl) ?_
        have hPc := hP.sub (ws' := [(h0, .inr (6, [.ref d_tape, .int w_pr_14, .int w_nu_8])), (d_tape, .inr (9, [.ref p_bytes, .ref p_ts, .ref p_tc, .int n_ta, .int n_to, .int n_tl])), (p_tc, .inl (k_tc, 600, .inl f_tc)), (b0, .inr (5, [.ref b_deed, .ref b_value, .ref b_tests, .ref b_thing, .ref b_sign, .ref b_number, .int n_bk])), (b_tests, .inl (k_bi, 16, .inl f_tests)), (b_thing, .inl (k_bi, 48, .inl f_thing)), (b_sign, .inl (k_bi, 48, .inl f_sign)), (b_number, .inl (k_bi, 48, .inl f_number))]) [7, 8, 9, 4, 0, 1, 2, 3] rfl
        have hDc := hD.sub (ws' := [(h0, .inr (6, [.ref d_tape, .int w_pr_14, .int w_nu_8])), (d_tape, .inr (9, [.ref p_bytes, .ref p_ts, .ref p_tc, .int n_ta, .int n_to, .int n_tl])), (p_tc, .inl (k_tc, 600, .inl f_tc)), (b0, .inr (5, [.ref b_deed, .ref b_value, .ref b_tests, .ref b_thing, .ref b_sign, .ref b_number, .int n_bk])), (b_tests, .inl (k_bi, 16, .inl f_tests)), (b_thing, .inl (k_bi, 48, .inl f_thing)), (b_sign, .inl (k_bi, 48, .inl f_sign)), (b_number, .inl (k_bi, 48, .inl f_number))]) [7, 8, 9, 4, 0, 1, 2, 3] (by decide) rfl
        have hKc := hK.sub (tys' := [(k_tc, .int), (k_bi, .int)]) [0, 1] rfl
        have hFc := va_free (wc := [(h0, .inr (6, [.ref d_tape, .int w_pr_14, .int w_nu_8])), (d_tape, .inr (9, [.ref p_bytes, .ref p_ts, .ref p_tc, .int n_ta, .int n_to, .int n_tl])), (p_tc, .inl (k_tc, 600, .inl f_tc)), (b0, .inr (5, [.ref b_deed, .ref b_value, .ref b_tests, .ref b_thing, .ref b_sign, .ref b_number, .int n_bk])), (b_tests, .inl (k_bi, 16, .inl f_tests)), (b_thing, .inl (k_bi, 48, .inl f_thing)), (b_sign, .inl (k_bi, 48, .inl f_sign)), (b_number, .inl (k_bi, 48, .inl f_number))]) hD hS hA [7, 8, 9, 4, 0, 1, 2, 3] rfl
        refine va_calli (va_runV (C := RX6) (As := [.ref b0]) (rest := []) ⟨hx, hb, hml, hown, htb⟩ (kX6_readTests l dC dI H.size h0 d_tape w_pr_14 w_nu_8 p_bytes p_ts p_tc n_ta n_to n_tl k_tc f_tc b0 b_deed b_value b_tests b_thing b_sign b_number n_bk k_bi f_tests f_thing f_sign f_number yq yk yt) ⟨callB_of 1 htb (gd_c m_943) rfl rfl rfl (htb _ m_11) (htb _ m_940) hdX6_readTests ⟨(Nat.le_of_ble_eq_true rfl), (Nat.le_of_ble_eq_true rfl)⟩, htb _ m_942, htb _ ms_27⟩ ⟨pcW_blind, va_recv hKc hPc (ci := 6) (q0 := 0) rfl rfl, pcW_at hPc hKc hDc hN⟩ rfl rfl hl.1 rfl (lv_room (Nat.le_of_ble_eq_true rfl)) dX6_readStatement_61 ⟨(Nat.le_of_ble_eq_true rfl), (Nat.le_of_ble_eq_true rfl)⟩) hS (fun q _ h => hFc q h) hFc (fun r_16 u t H1 locs1 ht hvm h_17 hB hz1 hk1 hS1 => ?_)
        obtain ⟨w_pr_18, w_nu_19, w_tests_20, w_thing_21, w_sign_22, w_number_23, e_24, hP1, hK1, hD1⟩ := hB
        rw [ht] at hP1
        obtain ⟨hPn, hDn⟩ := va_join (wr := [(b_deed, .inl (k_bi, 16, .inl w_deed_9)), (b_value, .inl (k_bi, 16, .inl w_value_10))]) (w1 := [(h0, .inr (6, [.ref d_tape, .int w_pr_18, .int w_nu_19])), (d_tape, .inr (9, [.ref p_bytes, .ref p_ts, .ref p_tc, .int n_ta, .int n_to, .int n_tl])), (p_tc, .inl (k_tc, 600, .inl f_tc)), (b0, .inr (5, [.ref b_deed, .ref b_value, .ref b_tests, .ref b_thing, .ref b_sign, .ref b_number, .int n_bk])), (b_tests, .inl (k_bi, 16, .inl w_tests_20)), (b_thing, .inl (k_bi, 48, .inl w_thing_21)), (b_sign, .inl (k_bi, 48, .inl w_sign_22)), (b_number, .inl (k_bi, 48, .inl w_number_23))]) hP hD [7, 8, 9, 4, 0, 1, 2, 3] [5, 6] rfl rfl (by decide) (by decide) hk1 hFc hP1 hD1
        clear hP1 hD1 hK1
        clear hP hD hS hPc hDc hKc hFc hk1 hz1 ht hvm
        clear t
        revert hS1 hPn hDn; generalize H1 = H; generalize locs1 = locs; intro hS hP hD
        change va_P (dC, dI) vwCl [(b_deed, .inl (k_bi, 16, .inl w_deed_9)), (b_value, .inl (k_bi, 16, .inl w_value_10)), (h0, .inr (6, [.ref d_tape, .int w_pr_18, .int w_nu_19])), (d_tape, .inr (9, [.ref p_bytes, .ref p_ts, .ref p_tc, .int n_ta, .int n_to, .int n_tl])), (p_tc, .inl (k_tc, 600, .inl f_tc)), (b0, .inr (5, [.ref b_deed, .ref b_value, .ref b_tests, .ref b_thing, .ref b_sign, .ref b_number, .int n_bk])), (b_tests, .inl (k_bi, 16, .inl w_tests_20)), (b_thing, .inl (k_bi, 48, .inl w_thing_21)), (b_sign, .inl (k_bi, 48, .inl w_sign_22)), (b_number, .inl (k_bi, 48, .inl w_number_23))] H at hP
        change va_D A [(b_deed, .inl (k_bi, 16, .inl w_deed_9)), (b_value, .inl (k_bi, 16, .inl w_value_10)), (h0, .inr (6, [.ref d_tape, .int w_pr_18, .int w_nu_19])), (d_tape, .inr (9, [.ref p_bytes, .ref p_ts, .ref p_tc, .int n_ta, .int n_to, .int n_tl])), (p_tc, .inl (k_tc, 600, .inl f_tc)), (b0, .inr (5, [.ref b_deed, .ref b_value, .ref b_tests, .ref b_thing, .ref b_sign, .ref b_number, .int n_bk])), (b_tests, .inl (k_bi, 16, .inl w_tests_20)), (b_thing, .inl (k_bi, 48, .inl w_thing_21)), (b_sign, .inl (k_bi, 48, .inl w_sign_22)), (b_number, .inl (k_bi, 48, .inl w_number_23))] at hD
        rcases h_17 with ⟨rfl, h_17⟩ | ⟨rfl, h_17⟩
        · refine lv_if_ne (tgt := 69) hx hb dX6_readStatement_64 (by decide) ?_ (fun c_25 => absurd c_25 (by decide))
          intro _
          refine lv_iload_n hx hb dX6_readStatement_69 rfl (lv_at hl 1 rfl) ?_
          refine lv_if_ne (tgt := 90) hx hb dX6_readStatement_70 (by decide) ?_ (fun c_26 => absurd c_26 (by decide))
          intro _
          refine lv_iconst (v := 1) hx hb dX6_readStatement_90 (by decide) ?_
          refine lv_goto (tgt := 95) hx hb dX6_readStatement_91 (by decide) ?_
          refine lv_istore (lv' := [(4, .int 1), (3, .int 1), (2, .int 1), (0, .ref h0), (1, .ref b0)]) hx hb dX6_readStatement_95 hl (by decide) rfl ?_
          clear hl; intro ls hl
          refine lv_iload hx hb dX6_readStatement_97 (lv_at hl 0 rfl) ?_
          refine lv_if_eq (tgt := 111) hx hb dX6_readStatement_99 (by decide) (fun c_27 => absurd c_27 (by decide)) ?_
          intro _
          refine lv_aload_n hx hb dX6_readStatement_102 rfl (lv_at hl 3 rfl) ?_
          refine lv_bipush (v := 59) hx hb dX6_readStatement_103 (by decide) ?_
          have hPc := hP.sub (ws' := [(h0, .inr (6, [.ref d_tape, .int w_pr_18, .int w_nu_19])), (d_tape, .inr (9, [.ref p_bytes, .ref p_ts, .ref p_tc, .int n_ta, .int n_to, .int n_tl])), (p_tc, .inl (k_tc, 600, .inl f_tc))]) [2, 3, 4] rfl
          have hDc := hD.sub (ws' := [(h0, .inr (6, [.ref d_tape, .int w_pr_18, .int w_nu_19])), (d_tape, .inr (9, [.ref p_bytes, .ref p_ts, .ref p_tc, .int n_ta, .int n_to, .int n_tl])), (p_tc, .inl (k_tc, 600, .inl f_tc))]) [2, 3, 4] (by decide) rfl
          have hKc := hK.sub (tys' := [(k_tc, .int)]) [0] rfl
          have hFc := va_free (wc := [(h0, .inr (6, [.ref d_tape, .int w_pr_18, .int w_nu_19])), (d_tape, .inr (9, [.ref p_bytes, .ref p_ts, .ref p_tc, .int n_ta, .int n_to, .int n_tl])), (p_tc, .inl (k_tc, 600, .inl f_tc))]) hD hS hA [2, 3, 4] rfl
          refine va_calli (va_runV (C := RX6) (As := [.int 59]) (rest := []) ⟨hx, hb, hml, hown, htb⟩ (kX6_take l dC dI H.size h0 d_tape w_pr_18 w_nu_19 p_bytes p_ts p_tc n_ta n_to n_tl k_tc f_tc 59 yq) ⟨callB_of 1 htb (gd_c m_922) rfl rfl rfl (htb _ m_11) (htb _ m_919) hdX6_take ⟨(Nat.le_of_ble_eq_true rfl), (Nat.le_of_ble_eq_true rfl)⟩, htb _ m_921, htb _ ms_24⟩ ⟨pcW_blind, va_recv hKc hPc (ci := 6) (q0 := 0) rfl rfl, pcW_at hPc hKc hDc hN⟩ rfl rfl hl.1 rfl (lv_room (Nat.le_of_ble_eq_true rfl)) dX6_readStatement_105 ⟨(Nat.le_of_ble_eq_true rfl), (Nat.le_of_ble_eq_true rfl)⟩) hS (fun q _ h => hFc q h) hFc (fun r_28 u t H1 locs1 ht hvm h_29 hB hz1 hk1 hS1 => ?_)
          obtain ⟨w_pr_30, hP1, hK1, hD1⟩ := hB
          rw [ht] at hP1
          obtain ⟨hPn, hDn⟩ := va_join (wr := [(b_deed, .inl (k_bi, 16, .inl w_deed_9)), (b_value, .inl (k_bi, 16, .inl w_value_10)), (b0, .inr (5, [.ref b_deed, .ref b_value, .ref b_tests, .ref b_thing, .ref b_sign, .ref b_number, .int n_bk])), (b_tests, .inl (k_bi, 16, .inl w_tests_20)), (b_thing, .inl (k_bi, 48, .inl w_thing_21)), (b_sign, .inl (k_bi, 48, .inl w_sign_22)), (b_number, .inl (k_bi, 48, .inl w_number_23))]) (w1 := [(h0, .inr (6, [.ref d_tape, .int w_pr_30, .int w_nu_19])), (d_tape, .inr (9, [.ref p_bytes, .ref p_ts, .ref p_tc, .int n_ta, .int n_to, .int n_tl])), (p_tc, .inl (k_tc, 600, .inl f_tc))]) hP hD [2, 3, 4] [0, 1, 5, 6, 7, 8, 9] rfl rfl (by decide) (by decide) hk1 hFc hP1 hD1
          clear hP1 hD1 hK1
          clear hP hD hS hPc hDc hKc hFc hk1 hz1 ht hvm
          clear t
          revert hS1 hPn hDn; generalize H1 = H; generalize locs1 = locs; intro hS hP hD
          change va_P (dC, dI) vwCl [(b_deed, .inl (k_bi, 16, .inl w_deed_9)), (b_value, .inl (k_bi, 16, .inl w_value_10)), (b0, .inr (5, [.ref b_deed, .ref b_value, .ref b_tests, .ref b_thing, .ref b_sign, .ref b_number, .int n_bk])), (b_tests, .inl (k_bi, 16, .inl w_tests_20)), (b_thing, .inl (k_bi, 48, .inl w_thing_21)), (b_sign, .inl (k_bi, 48, .inl w_sign_22)), (b_number, .inl (k_bi, 48, .inl w_number_23)), (h0, .inr (6, [.ref d_tape, .int w_pr_30, .int w_nu_19])), (d_tape, .inr (9, [.ref p_bytes, .ref p_ts, .ref p_tc, .int n_ta, .int n_to, .int n_tl])), (p_tc, .inl (k_tc, 600, .inl f_tc))] H at hP
          change va_D A [(b_deed, .inl (k_bi, 16, .inl w_deed_9)), (b_value, .inl (k_bi, 16, .inl w_value_10)), (b0, .inr (5, [.ref b_deed, .ref b_value, .ref b_tests, .ref b_thing, .ref b_sign, .ref b_number, .int n_bk])), (b_tests, .inl (k_bi, 16, .inl w_tests_20)), (b_thing, .inl (k_bi, 48, .inl w_thing_21)), (b_sign, .inl (k_bi, 48, .inl w_sign_22)), (b_number, .inl (k_bi, 48, .inl w_number_23)), (h0, .inr (6, [.ref d_tape, .int w_pr_30, .int w_nu_19])), (d_tape, .inr (9, [.ref p_bytes, .ref p_ts, .ref p_tc, .int n_ta, .int n_to, .int n_tl])), (p_tc, .inl (k_tc, 600, .inl f_tc))] at hD
          rcases h_29 with ⟨rfl, h_29⟩ | ⟨rfl, h_29⟩
          · refine lv_if_ne (tgt := 113) hx hb dX6_readStatement_108 (by decide) ?_ (fun c_31 => absurd c_31 (by decide))
            intro _
            refine lv_aload_n hx hb dX6_readStatement_113 rfl (lv_at hl 4 rfl) ?_
            have hPc := hP.sub (ws' := [(b0, .inr (5, [.ref b_deed, .ref b_value, .ref b_tests, .ref b_thing, .ref b_sign, .ref b_number, .int n_bk]))]) [2] rfl
            have hDc := hD.sub (ws' := [(b0, .inr (5, [.ref b_deed, .ref b_value, .ref b_tests, .ref b_thing, .ref b_sign, .ref b_number, .int n_bk]))]) [2] (by decide) rfl
            have hKc := hK.sub (tys' := []) [] rfl
            have hFc := va_free (wc := [(b0, .inr (5, [.ref b_deed, .ref b_value, .ref b_tests, .ref b_thing, .ref b_sign, .ref b_number, .int n_bk]))]) hD hS hA [2] rfl
            refine va_callv (va_runV (C := RX5) (As := []) (rest := []) ⟨hx, hb, hml, hown, htb⟩ (kX5_endStatement l dC dI H.size b0 b_deed b_value b_tests b_thing b_sign b_number n_bk yk) ⟨callB_of 0 htb (gd_c m_959) rfl rfl rfl (htb _ m_12) (htb _ m_956) hdX5_endStatement ⟨(Nat.le_of_ble_eq_true rfl), (Nat.le_of_ble_eq_true rfl)⟩, htb _ m_957, htb _ m_958⟩ ⟨pcW_blind, va_recv hKc hPc (ci := 5) (q0 := 0) rfl rfl, pcW_at hPc hKc hDc hN⟩ rfl rfl hl.1 rfl (lv_room (Nat.le_of_ble_eq_true rfl)) dX6_readStatement_114 ⟨(Nat.le_of_ble_eq_true rfl), (Nat.le_of_ble_eq_true rfl)⟩) hS (fun q _ h => hFc q h) hFc (fun u t H1 locs1 ht hvm h_33 hB hz1 hk1 hS1 => ?_)
            obtain ⟨w_bk_34, e_35, hP1, hK1, hD1⟩ := hB
            rw [ht] at hP1
            obtain ⟨hPn, hDn⟩ := va_join (wr := [(b_deed, .inl (k_bi, 16, .inl w_deed_9)), (b_value, .inl (k_bi, 16, .inl w_value_10)), (b_tests, .inl (k_bi, 16, .inl w_tests_20)), (b_thing, .inl (k_bi, 48, .inl w_thing_21)), (b_sign, .inl (k_bi, 48, .inl w_sign_22)), (b_number, .inl (k_bi, 48, .inl w_number_23)), (h0, .inr (6, [.ref d_tape, .int w_pr_30, .int w_nu_19])), (d_tape, .inr (9, [.ref p_bytes, .ref p_ts, .ref p_tc, .int n_ta, .int n_to, .int n_tl])), (p_tc, .inl (k_tc, 600, .inl f_tc))]) (w1 := [(b0, .inr (5, [.ref b_deed, .ref b_value, .ref b_tests, .ref b_thing, .ref b_sign, .ref b_number, .int w_bk_34]))]) hP hD [2] [0, 1, 3, 4, 5, 6, 7, 8, 9] rfl rfl (by decide) (by decide) hk1 hFc hP1 hD1
            clear hP1 hD1 hK1
            clear hP hD hS hPc hDc hKc hFc hk1 hz1 ht hvm
            clear t
            revert hS1 hPn hDn; generalize H1 = H; generalize locs1 = locs; intro hS hP hD
            change va_P (dC, dI) vwCl [(b_deed, .inl (k_bi, 16, .inl w_deed_9)), (b_value, .inl (k_bi, 16, .inl w_value_10)), (b_tests, .inl (k_bi, 16, .inl w_tests_20)), (b_thing, .inl (k_bi, 48, .inl w_thing_21)), (b_sign, .inl (k_bi, 48, .inl w_sign_22)), (b_number, .inl (k_bi, 48, .inl w_number_23)), (h0, .inr (6, [.ref d_tape, .int w_pr_30, .int w_nu_19])), (d_tape, .inr (9, [.ref p_bytes, .ref p_ts, .ref p_tc, .int n_ta, .int n_to, .int n_tl])), (p_tc, .inl (k_tc, 600, .inl f_tc)), (b0, .inr (5, [.ref b_deed, .ref b_value, .ref b_tests, .ref b_thing, .ref b_sign, .ref b_number, .int w_bk_34]))] H at hP
            change va_D A [(b_deed, .inl (k_bi, 16, .inl w_deed_9)), (b_value, .inl (k_bi, 16, .inl w_value_10)), (b_tests, .inl (k_bi, 16, .inl w_tests_20)), (b_thing, .inl (k_bi, 48, .inl w_thing_21)), (b_sign, .inl (k_bi, 48, .inl w_sign_22)), (b_number, .inl (k_bi, 48, .inl w_number_23)), (h0, .inr (6, [.ref d_tape, .int w_pr_30, .int w_nu_19])), (d_tape, .inr (9, [.ref p_bytes, .ref p_ts, .ref p_tc, .int n_ta, .int n_to, .int n_tl])), (p_tc, .inl (k_tc, 600, .inl f_tc)), (b0, .inr (5, [.ref b_deed, .ref b_value, .ref b_tests, .ref b_thing, .ref b_sign, .ref b_number, .int w_bk_34]))] at hD
            refine lv_iconst (v := 1) hx hb dX6_readStatement_117 (by decide) ?_
            refine W.widen (k := 0) (n := 0) (Nat.le_of_ble_eq_true rfl) (Nat.le_of_ble_eq_true rfl) ?_
            have hP9 := hP.sub (ws' := [(h0, .inr (6, [.ref d_tape, .int w_pr_30, .int w_nu_19])), (d_tape, .inr (9, [.ref p_bytes, .ref p_ts, .ref p_tc, .int n_ta, .int n_to, .int n_tl])), (p_tc, .inl (k_tc, 600, .inl f_tc)), (b0, .inr (5, [.ref b_deed, .ref b_value, .ref b_tests, .ref b_thing, .ref b_sign, .ref b_number, .int w_bk_34])), (b_deed, .inl (k_bi, 16, .inl w_deed_9)), (b_value, .inl (k_bi, 16, .inl w_value_10)), (b_tests, .inl (k_bi, 16, .inl w_tests_20)), (b_thing, .inl (k_bi, 48, .inl w_thing_21)), (b_sign, .inl (k_bi, 48, .inl w_sign_22)), (b_number, .inl (k_bi, 48, .inl w_number_23))]) [6, 7, 8, 9, 0, 1, 2, 3, 4, 5] rfl
            have hD9 := hD.sub (ws' := [(h0, .inr (6, [.ref d_tape, .int w_pr_30, .int w_nu_19])), (d_tape, .inr (9, [.ref p_bytes, .ref p_ts, .ref p_tc, .int n_ta, .int n_to, .int n_tl])), (p_tc, .inl (k_tc, 600, .inl f_tc)), (b0, .inr (5, [.ref b_deed, .ref b_value, .ref b_tests, .ref b_thing, .ref b_sign, .ref b_number, .int w_bk_34])), (b_deed, .inl (k_bi, 16, .inl w_deed_9)), (b_value, .inl (k_bi, 16, .inl w_value_10)), (b_tests, .inl (k_bi, 16, .inl w_tests_20)), (b_thing, .inl (k_bi, 48, .inl w_thing_21)), (b_sign, .inl (k_bi, 48, .inl w_sign_22)), (b_number, .inl (k_bi, 48, .inl w_number_23))]) [6, 7, 8, 9, 0, 1, 2, 3, 4, 5] (by decide) rfl
            have hK9 := hK.sub (tys' := []) [] rfl
            exact W.zret (ty := .boolean) (v := 1) hx hb hr rfl (fun t ht hW => ⟨⟨1, (), rfl, (Or.inl ⟨rfl, (lg_X6_readStatement_1 n_ta n_to n_tl n_bk w_bk_34 yq yk h_2 h_6 h_13 h_17 h_29 e_35)⟩), ⟨w_pr_30, w_nu_19, w_bk_34, w_deed_9, w_value_10, w_tests_20, w_thing_21, w_sign_22, w_number_23, e_24, (lg_X6_readStatement_0 n_ta n_to n_tl n_bk w_bk_34 yq yk h_2 h_6 h_13 h_17 h_29 e_35), by rw [ht]; exact hP9, va_K.moved hW.alike hK9, hD9⟩⟩, hS.F ht⟩) hS.2.2 dX6_readStatement_118
          · refine lv_if_ne (tgt := 113) hx hb dX6_readStatement_108 (by decide) (fun c_36 => absurd (by decide) c_36) ?_
            intro _
            refine lv_iconst (v := 0) hx hb dX6_readStatement_111 (by decide) ?_
            refine W.widen (k := 0) (n := 0) (Nat.le_of_ble_eq_true rfl) (Nat.le_of_ble_eq_true rfl) ?_
            have hP9 := hP.sub (ws' := [(h0, .inr (6, [.ref d_tape, .int w_pr_30, .int w_nu_19])), (d_tape, .inr (9, [.ref p_bytes, .ref p_ts, .ref p_tc, .int n_ta, .int n_to, .int n_tl])), (p_tc, .inl (k_tc, 600, .inl f_tc)), (b0, .inr (5, [.ref b_deed, .ref b_value, .ref b_tests, .ref b_thing, .ref b_sign, .ref b_number, .int n_bk])), (b_deed, .inl (k_bi, 16, .inl w_deed_9)), (b_value, .inl (k_bi, 16, .inl w_value_10)), (b_tests, .inl (k_bi, 16, .inl w_tests_20)), (b_thing, .inl (k_bi, 48, .inl w_thing_21)), (b_sign, .inl (k_bi, 48, .inl w_sign_22)), (b_number, .inl (k_bi, 48, .inl w_number_23))]) [7, 8, 9, 2, 0, 1, 3, 4, 5, 6] rfl
            have hD9 := hD.sub (ws' := [(h0, .inr (6, [.ref d_tape, .int w_pr_30, .int w_nu_19])), (d_tape, .inr (9, [.ref p_bytes, .ref p_ts, .ref p_tc, .int n_ta, .int n_to, .int n_tl])), (p_tc, .inl (k_tc, 600, .inl f_tc)), (b0, .inr (5, [.ref b_deed, .ref b_value, .ref b_tests, .ref b_thing, .ref b_sign, .ref b_number, .int n_bk])), (b_deed, .inl (k_bi, 16, .inl w_deed_9)), (b_value, .inl (k_bi, 16, .inl w_value_10)), (b_tests, .inl (k_bi, 16, .inl w_tests_20)), (b_thing, .inl (k_bi, 48, .inl w_thing_21)), (b_sign, .inl (k_bi, 48, .inl w_sign_22)), (b_number, .inl (k_bi, 48, .inl w_number_23))]) [7, 8, 9, 2, 0, 1, 3, 4, 5, 6] (by decide) rfl
            have hK9 := hK.sub (tys' := []) [] rfl
            exact W.zret (ty := .boolean) (v := 0) hx hb hr rfl (fun t ht hW => ⟨⟨0, (), rfl, (Or.inr (⟨rfl, (lg_X6_readStatement_3 n_ta n_to n_tl n_bk yq yk h_2 h_6 h_13 h_17 h_29)⟩)), ⟨w_pr_30, w_nu_19, n_bk, w_deed_9, w_value_10, w_tests_20, w_thing_21, w_sign_22, w_number_23, e_24, (lg_X6_readStatement_2 n_ta n_to n_tl n_bk yq yk h_2 h_6 h_13 h_17 h_29), by rw [ht]; exact hP9, va_K.moved hW.alike hK9, hD9⟩⟩, hS.F ht⟩) hS.2.2 dX6_readStatement_112
        · refine lv_if_ne (tgt := 69) hx hb dX6_readStatement_64 (by decide) (fun c_37 => absurd (by decide) c_37) ?_
          intro _
          refine lv_iconst (v := 0) hx hb dX6_readStatement_67 (by decide) ?_
          refine W.widen (k := 0) (n := 0) (Nat.le_of_ble_eq_true rfl) (Nat.le_of_ble_eq_true rfl) ?_
          have hP9 := hP.sub (ws' := [(h0, .inr (6, [.ref d_tape, .int w_pr_18, .int w_nu_19])), (d_tape, .inr (9, [.ref p_bytes, .ref p_ts, .ref p_tc, .int n_ta, .int n_to, .int n_tl])), (p_tc, .inl (k_tc, 600, .inl f_tc)), (b0, .inr (5, [.ref b_deed, .ref b_value, .ref b_tests, .ref b_thing, .ref b_sign, .ref b_number, .int n_bk])), (b_deed, .inl (k_bi, 16, .inl w_deed_9)), (b_value, .inl (k_bi, 16, .inl w_value_10)), (b_tests, .inl (k_bi, 16, .inl w_tests_20)), (b_thing, .inl (k_bi, 48, .inl w_thing_21)), (b_sign, .inl (k_bi, 48, .inl w_sign_22)), (b_number, .inl (k_bi, 48, .inl w_number_23))]) [2, 3, 4, 5, 0, 1, 6, 7, 8, 9] rfl
          have hD9 := hD.sub (ws' := [(h0, .inr (6, [.ref d_tape, .int w_pr_18, .int w_nu_19])), (d_tape, .inr (9, [.ref p_bytes, .ref p_ts, .ref p_tc, .int n_ta, .int n_to, .int n_tl])), (p_tc, .inl (k_tc, 600, .inl f_tc)), (b0, .inr (5, [.ref b_deed, .ref b_value, .ref b_tests, .ref b_thing, .ref b_sign, .ref b_number, .int n_bk])), (b_deed, .inl (k_bi, 16, .inl w_deed_9)), (b_value, .inl (k_bi, 16, .inl w_value_10)), (b_tests, .inl (k_bi, 16, .inl w_tests_20)), (b_thing, .inl (k_bi, 48, .inl w_thing_21)), (b_sign, .inl (k_bi, 48, .inl w_sign_22)), (b_number, .inl (k_bi, 48, .inl w_number_23))]) [2, 3, 4, 5, 0, 1, 6, 7, 8, 9] (by decide) rfl
          have hK9 := hK.sub (tys' := []) [] rfl
          exact W.zret (ty := .boolean) (v := 0) hx hb hr rfl (fun t ht hW => ⟨⟨0, (), rfl, (Or.inr (⟨rfl, (lg_X6_readStatement_5 n_ta n_to n_tl n_bk yq yk h_2 h_6 h_13 h_17)⟩)), ⟨w_pr_18, w_nu_19, n_bk, w_deed_9, w_value_10, w_tests_20, w_thing_21, w_sign_22, w_number_23, e_24, (lg_X6_readStatement_4 n_ta n_to n_tl n_bk yq yk h_2 h_6 h_13 h_17), by rw [ht]; exact hP9, va_K.moved hW.alike hK9, hD9⟩⟩, hS.F ht⟩) hS.2.2 dX6_readStatement_68
      · refine lv_if_eq (tgt := 67) hx hb dX6_readStatement_56 (by decide) ?_ (fun c_38 => absurd (by decide) c_38)
        intro _
        refine lv_iconst (v := 0) hx hb dX6_readStatement_67 (by decide) ?_
        refine W.widen (k := 0) (n := 0) (Nat.le_of_ble_eq_true rfl) (Nat.le_of_ble_eq_true rfl) ?_
        have hP9 := hP.sub (ws' := [(h0, .inr (6, [.ref d_tape, .int w_pr_14, .int w_nu_8])), (d_tape, .inr (9, [.ref p_bytes, .ref p_ts, .ref p_tc, .int n_ta, .int n_to, .int n_tl])), (p_tc, .inl (k_tc, 600, .inl f_tc)), (b0, .inr (5, [.ref b_deed, .ref b_value, .ref b_tests, .ref b_thing, .ref b_sign, .ref b_number, .int n_bk])), (b_deed, .inl (k_bi, 16, .inl w_deed_9)), (b_value, .inl (k_bi, 16, .inl w_value_10)), (b_tests, .inl (k_bi, 16, .inl f_tests)), (b_thing, .inl (k_bi, 48, .inl f_thing)), (b_sign, .inl (k_bi, 48, .inl f_sign)), (b_number, .inl (k_bi, 48, .inl f_number))]) [7, 8, 9, 4, 5, 6, 0, 1, 2, 3] rfl
        have hD9 := hD.sub (ws' := [(h0, .inr (6, [.ref d_tape, .int w_pr_14, .int w_nu_8])), (d_tape, .inr (9, [.ref p_bytes, .ref p_ts, .ref p_tc, .int n_ta, .int n_to, .int n_tl])), (p_tc, .inl (k_tc, 600, .inl f_tc)), (b0, .inr (5, [.ref b_deed, .ref b_value, .ref b_tests, .ref b_thing, .ref b_sign, .ref b_number, .int n_bk])), (b_deed, .inl (k_bi, 16, .inl w_deed_9)), (b_value, .inl (k_bi, 16, .inl w_value_10)), (b_tests, .inl (k_bi, 16, .inl f_tests)), (b_thing, .inl (k_bi, 48, .inl f_thing)), (b_sign, .inl (k_bi, 48, .inl f_sign)), (b_number, .inl (k_bi, 48, .inl f_number))]) [7, 8, 9, 4, 5, 6, 0, 1, 2, 3] (by decide) rfl
        have hK9 := hK.sub (tys' := []) [] rfl
        exact W.zret (ty := .boolean) (v := 0) hx hb hr rfl (fun t ht hW => ⟨⟨0, (), rfl, (Or.inr (⟨rfl, (lg_X6_readStatement_7 n_ta n_to n_tl n_bk yq yk h_2 h_6 h_13)⟩)), ⟨w_pr_14, w_nu_8, n_bk, w_deed_9, w_value_10, f_tests, f_thing, f_sign, f_number, yt, (lg_X6_readStatement_6 n_ta n_to n_tl n_bk yq yk h_2 h_6 h_13), by rw [ht]; exact hP9, va_K.moved hW.alike hK9, hD9⟩⟩, hS.F ht⟩) hS.2.2 dX6_readStatement_68
    · refine lv_goto (tgt := 45) hx hb dX6_readStatement_19 (by decide) ?_
      refine lv_istore_n (lv' := [(3, .int 0), (2, .int 1), (0, .ref h0), (1, .ref b0)]) hx hb dX6_readStatement_45 rfl hl (by decide) rfl ?_
      clear hl; intro ls hl
      refine lv_iload_n hx hb dX6_readStatement_46 rfl (lv_at hl 0 rfl) ?_
      refine lv_if_eq (tgt := 67) hx hb dX6_readStatement_47 (by decide) ?_ (fun c_39 => absurd (by decide) c_39)
      intro _
      refine lv_iconst (v := 0) hx hb dX6_readStatement_67 (by decide) ?_
      refine W.widen (k := 0) (n := 0) (Nat.le_of_ble_eq_true rfl) (Nat.le_of_ble_eq_true rfl) ?_
      have hP9 := hP.sub (ws' := [(h0, .inr (6, [.ref d_tape, .int w_pr_7, .int w_nu_8])), (d_tape, .inr (9, [.ref p_bytes, .ref p_ts, .ref p_tc, .int n_ta, .int n_to, .int n_tl])), (p_tc, .inl (k_tc, 600, .inl f_tc)), (b0, .inr (5, [.ref b_deed, .ref b_value, .ref b_tests, .ref b_thing, .ref b_sign, .ref b_number, .int n_bk])), (b_deed, .inl (k_bi, 16, .inl w_deed_9)), (b_value, .inl (k_bi, 16, .inl w_value_10)), (b_tests, .inl (k_bi, 16, .inl f_tests)), (b_thing, .inl (k_bi, 48, .inl f_thing)), (b_sign, .inl (k_bi, 48, .inl f_sign)), (b_number, .inl (k_bi, 48, .inl f_number))]) [4, 5, 6, 7, 8, 9, 0, 1, 2, 3] rfl
      have hD9 := hD.sub (ws' := [(h0, .inr (6, [.ref d_tape, .int w_pr_7, .int w_nu_8])), (d_tape, .inr (9, [.ref p_bytes, .ref p_ts, .ref p_tc, .int n_ta, .int n_to, .int n_tl])), (p_tc, .inl (k_tc, 600, .inl f_tc)), (b0, .inr (5, [.ref b_deed, .ref b_value, .ref b_tests, .ref b_thing, .ref b_sign, .ref b_number, .int n_bk])), (b_deed, .inl (k_bi, 16, .inl w_deed_9)), (b_value, .inl (k_bi, 16, .inl w_value_10)), (b_tests, .inl (k_bi, 16, .inl f_tests)), (b_thing, .inl (k_bi, 48, .inl f_thing)), (b_sign, .inl (k_bi, 48, .inl f_sign)), (b_number, .inl (k_bi, 48, .inl f_number))]) [4, 5, 6, 7, 8, 9, 0, 1, 2, 3] (by decide) rfl
      have hK9 := hK.sub (tys' := []) [] rfl
      exact W.zret (ty := .boolean) (v := 0) hx hb hr rfl (fun t ht hW => ⟨⟨0, (), rfl, (Or.inr (⟨rfl, (lg_X6_readStatement_9 n_ta n_to n_tl n_bk yq yk h_2 h_6)⟩)), ⟨w_pr_7, w_nu_8, n_bk, w_deed_9, w_value_10, f_tests, f_thing, f_sign, f_number, yt, (lg_X6_readStatement_8 n_ta n_to n_tl n_bk yq yk h_2 h_6), by rw [ht]; exact hP9, va_K.moved hW.alike hK9, hD9⟩⟩, hS.F ht⟩) hS.2.2 dX6_readStatement_68
  · refine lv_istore_n (lv' := [(2, .int 0), (0, .ref h0), (1, .ref b0)]) hx hb dX6_readStatement_6 rfl hl (by decide) rfl ?_
    clear hl; intro ls hl
    refine lv_iload_n hx hb dX6_readStatement_7 rfl (lv_at hl 0 rfl) ?_
    refine lv_if_eq (tgt := 22) hx hb dX6_readStatement_8 (by decide) ?_ (fun c_40 => absurd (by decide) c_40)
    intro _
    refine lv_aload_n hx hb dX6_readStatement_22 rfl (lv_at hl 1 rfl) ?_
    refine lv_bipush (v := 6) hx hb dX6_readStatement_23 (by decide) ?_
    have hPc := hP.sub (ws' := [(h0, .inr (6, [.ref d_tape, .int w_pr_3, .int n_nu])), (d_tape, .inr (9, [.ref p_bytes, .ref p_ts, .ref p_tc, .int n_ta, .int n_to, .int n_tl])), (p_tc, .inl (k_tc, 600, .inl f_tc))]) [7, 8, 9] rfl
    have hDc := hD.sub (ws' := [(h0, .inr (6, [.ref d_tape, .int w_pr_3, .int n_nu])), (d_tape, .inr (9, [.ref p_bytes, .ref p_ts, .ref p_tc, .int n_ta, .int n_to, .int n_tl])), (p_tc, .inl (k_tc, 600, .inl f_tc))]) [7, 8, 9] (by decide) rfl
    have hKc := hK.sub (tys' := [(k_tc, .int)]) [0] rfl
    have hFc := va_free (wc := [(h0, .inr (6, [.ref d_tape, .int w_pr_3, .int n_nu])), (d_tape, .inr (9, [.ref p_bytes, .ref p_ts, .ref p_tc, .int n_ta, .int n_to, .int n_tl])), (p_tc, .inl (k_tc, 600, .inl f_tc))]) hD hS hA [7, 8, 9] rfl
    refine va_calli (va_runV (C := RX6) (As := [.int 6]) (rest := []) ⟨hx, hb, hml, hown, htb⟩ (kX6_take l dC dI H.size h0 d_tape w_pr_3 n_nu p_bytes p_ts p_tc n_ta n_to n_tl k_tc f_tc 6 yq) ⟨callB_of 1 htb (gd_c m_922) rfl rfl rfl (htb _ m_11) (htb _ m_919) hdX6_take ⟨(Nat.le_of_ble_eq_true rfl), (Nat.le_of_ble_eq_true rfl)⟩, htb _ m_921, htb _ ms_24⟩ ⟨pcW_blind, va_recv hKc hPc (ci := 6) (q0 := 0) rfl rfl, pcW_at hPc hKc hDc hN⟩ rfl rfl hl.1 rfl (lv_room (Nat.le_of_ble_eq_true rfl)) dX6_readStatement_25 ⟨(Nat.le_of_ble_eq_true rfl), (Nat.le_of_ble_eq_true rfl)⟩) hS (fun q _ h => hFc q h) hFc (fun r_41 u t H1 locs1 ht hvm h_42 hB hz1 hk1 hS1 => ?_)
    obtain ⟨w_pr_43, hP1, hK1, hD1⟩ := hB
    rw [ht] at hP1
    obtain ⟨hPn, hDn⟩ := va_join (wr := [(b0, .inr (5, [.ref b_deed, .ref b_value, .ref b_tests, .ref b_thing, .ref b_sign, .ref b_number, .int n_bk])), (b_deed, .inl (k_bi, 16, .inl f_deed)), (b_value, .inl (k_bi, 16, .inl f_value)), (b_tests, .inl (k_bi, 16, .inl f_tests)), (b_thing, .inl (k_bi, 48, .inl f_thing)), (b_sign, .inl (k_bi, 48, .inl f_sign)), (b_number, .inl (k_bi, 48, .inl f_number))]) (w1 := [(h0, .inr (6, [.ref d_tape, .int w_pr_43, .int n_nu])), (d_tape, .inr (9, [.ref p_bytes, .ref p_ts, .ref p_tc, .int n_ta, .int n_to, .int n_tl])), (p_tc, .inl (k_tc, 600, .inl f_tc))]) hP hD [7, 8, 9] [0, 1, 2, 3, 4, 5, 6] rfl rfl (by decide) (by decide) hk1 hFc hP1 hD1
    clear hP1 hD1 hK1
    clear hP hD hS hPc hDc hKc hFc hk1 hz1 ht hvm
    clear t
    revert hS1 hPn hDn; generalize H1 = H; generalize locs1 = locs; intro hS hP hD
    change va_P (dC, dI) vwCl [(b0, .inr (5, [.ref b_deed, .ref b_value, .ref b_tests, .ref b_thing, .ref b_sign, .ref b_number, .int n_bk])), (b_deed, .inl (k_bi, 16, .inl f_deed)), (b_value, .inl (k_bi, 16, .inl f_value)), (b_tests, .inl (k_bi, 16, .inl f_tests)), (b_thing, .inl (k_bi, 48, .inl f_thing)), (b_sign, .inl (k_bi, 48, .inl f_sign)), (b_number, .inl (k_bi, 48, .inl f_number)), (h0, .inr (6, [.ref d_tape, .int w_pr_43, .int n_nu])), (d_tape, .inr (9, [.ref p_bytes, .ref p_ts, .ref p_tc, .int n_ta, .int n_to, .int n_tl])), (p_tc, .inl (k_tc, 600, .inl f_tc))] H at hP
    change va_D A [(b0, .inr (5, [.ref b_deed, .ref b_value, .ref b_tests, .ref b_thing, .ref b_sign, .ref b_number, .int n_bk])), (b_deed, .inl (k_bi, 16, .inl f_deed)), (b_value, .inl (k_bi, 16, .inl f_value)), (b_tests, .inl (k_bi, 16, .inl f_tests)), (b_thing, .inl (k_bi, 48, .inl f_thing)), (b_sign, .inl (k_bi, 48, .inl f_sign)), (b_number, .inl (k_bi, 48, .inl f_number)), (h0, .inr (6, [.ref d_tape, .int w_pr_43, .int n_nu])), (d_tape, .inr (9, [.ref p_bytes, .ref p_ts, .ref p_tc, .int n_ta, .int n_to, .int n_tl])), (p_tc, .inl (k_tc, 600, .inl f_tc))] at hD
    rcases h_42 with ⟨rfl, h_42⟩ | ⟨rfl, h_42⟩
    · refine lv_if_eq (tgt := 44) hx hb dX6_readStatement_28 (by decide) (fun c_44 => absurd c_44 (by decide)) ?_
      intro _
      refine lv_aload_n hx hb dX6_readStatement_31 rfl (lv_at hl 1 rfl) ?_
      refine lv_bipush (v := 7) hx hb dX6_readStatement_32 (by decide) ?_
      have hPc := hP.sub (ws' := [(h0, .inr (6, [.ref d_tape, .int w_pr_43, .int n_nu])), (d_tape, .inr (9, [.ref p_bytes, .ref p_ts, .ref p_tc, .int n_ta, .int n_to, .int n_tl])), (p_tc, .inl (k_tc, 600, .inl f_tc))]) [7, 8, 9] rfl
      have hDc := hD.sub (ws' := [(h0, .inr (6, [.ref d_tape, .int w_pr_43, .int n_nu])), (d_tape, .inr (9, [.ref p_bytes, .ref p_ts, .ref p_tc, .int n_ta, .int n_to, .int n_tl])), (p_tc, .inl (k_tc, 600, .inl f_tc))]) [7, 8, 9] (by decide) rfl
      have hKc := hK.sub (tys' := [(k_tc, .int)]) [0] rfl
      have hFc := va_free (wc := [(h0, .inr (6, [.ref d_tape, .int w_pr_43, .int n_nu])), (d_tape, .inr (9, [.ref p_bytes, .ref p_ts, .ref p_tc, .int n_ta, .int n_to, .int n_tl])), (p_tc, .inl (k_tc, 600, .inl f_tc))]) hD hS hA [7, 8, 9] rfl
      refine va_calli (va_runV (C := RX6) (As := [.int 7]) (rest := []) ⟨hx, hb, hml, hown, htb⟩ (kX6_take l dC dI H.size h0 d_tape w_pr_43 n_nu p_bytes p_ts p_tc n_ta n_to n_tl k_tc f_tc 7 yq) ⟨callB_of 1 htb (gd_c m_922) rfl rfl rfl (htb _ m_11) (htb _ m_919) hdX6_take ⟨(Nat.le_of_ble_eq_true rfl), (Nat.le_of_ble_eq_true rfl)⟩, htb _ m_921, htb _ ms_24⟩ ⟨pcW_blind, va_recv hKc hPc (ci := 6) (q0 := 0) rfl rfl, pcW_at hPc hKc hDc hN⟩ rfl rfl hl.1 rfl (lv_room (Nat.le_of_ble_eq_true rfl)) dX6_readStatement_34 ⟨(Nat.le_of_ble_eq_true rfl), (Nat.le_of_ble_eq_true rfl)⟩) hS (fun q _ h => hFc q h) hFc (fun r_45 u t H1 locs1 ht hvm h_46 hB hz1 hk1 hS1 => ?_)
      obtain ⟨w_pr_47, hP1, hK1, hD1⟩ := hB
      rw [ht] at hP1
      obtain ⟨hPn, hDn⟩ := va_join (wr := [(b0, .inr (5, [.ref b_deed, .ref b_value, .ref b_tests, .ref b_thing, .ref b_sign, .ref b_number, .int n_bk])), (b_deed, .inl (k_bi, 16, .inl f_deed)), (b_value, .inl (k_bi, 16, .inl f_value)), (b_tests, .inl (k_bi, 16, .inl f_tests)), (b_thing, .inl (k_bi, 48, .inl f_thing)), (b_sign, .inl (k_bi, 48, .inl f_sign)), (b_number, .inl (k_bi, 48, .inl f_number))]) (w1 := [(h0, .inr (6, [.ref d_tape, .int w_pr_47, .int n_nu])), (d_tape, .inr (9, [.ref p_bytes, .ref p_ts, .ref p_tc, .int n_ta, .int n_to, .int n_tl])), (p_tc, .inl (k_tc, 600, .inl f_tc))]) hP hD [7, 8, 9] [0, 1, 2, 3, 4, 5, 6] rfl rfl (by decide) (by decide) hk1 hFc hP1 hD1
      clear hP1 hD1 hK1
      clear hP hD hS hPc hDc hKc hFc hk1 hz1 ht hvm
      clear t
      revert hS1 hPn hDn; generalize H1 = H; generalize locs1 = locs; intro hS hP hD
      change va_P (dC, dI) vwCl [(b0, .inr (5, [.ref b_deed, .ref b_value, .ref b_tests, .ref b_thing, .ref b_sign, .ref b_number, .int n_bk])), (b_deed, .inl (k_bi, 16, .inl f_deed)), (b_value, .inl (k_bi, 16, .inl f_value)), (b_tests, .inl (k_bi, 16, .inl f_tests)), (b_thing, .inl (k_bi, 48, .inl f_thing)), (b_sign, .inl (k_bi, 48, .inl f_sign)), (b_number, .inl (k_bi, 48, .inl f_number)), (h0, .inr (6, [.ref d_tape, .int w_pr_47, .int n_nu])), (d_tape, .inr (9, [.ref p_bytes, .ref p_ts, .ref p_tc, .int n_ta, .int n_to, .int n_tl])), (p_tc, .inl (k_tc, 600, .inl f_tc))] H at hP
      change va_D A [(b0, .inr (5, [.ref b_deed, .ref b_value, .ref b_tests, .ref b_thing, .ref b_sign, .ref b_number, .int n_bk])), (b_deed, .inl (k_bi, 16, .inl f_deed)), (b_value, .inl (k_bi, 16, .inl f_value)), (b_tests, .inl (k_bi, 16, .inl f_tests)), (b_thing, .inl (k_bi, 48, .inl f_thing)), (b_sign, .inl (k_bi, 48, .inl f_sign)), (b_number, .inl (k_bi, 48, .inl f_number)), (h0, .inr (6, [.ref d_tape, .int w_pr_47, .int n_nu])), (d_tape, .inr (9, [.ref p_bytes, .ref p_ts, .ref p_tc, .int n_ta, .int n_to, .int n_tl])), (p_tc, .inl (k_tc, 600, .inl f_tc))] at hD
      rcases h_46 with ⟨rfl, h_46⟩ | ⟨rfl, h_46⟩
      · refine lv_if_eq (tgt := 44) hx hb dX6_readStatement_37 (by decide) (fun c_48 => absurd c_48 (by decide)) ?_
        intro _
        refine lv_iconst (v := 1) hx hb dX6_readStatement_40 (by decide) ?_
        refine lv_goto (tgt := 45) hx hb dX6_readStatement_41 (by decide) ?_
        refine lv_istore_n (lv' := [(3, .int 1), (2, .int 0), (0, .ref h0), (1, .ref b0)]) hx hb dX6_readStatement_45 rfl hl (by decide) rfl ?_
        clear hl; intro ls hl
        refine lv_iload_n hx hb dX6_readStatement_46 rfl (lv_at hl 0 rfl) ?_
        refine lv_if_eq (tgt := 67) hx hb dX6_readStatement_47 (by decide) (fun c_49 => absurd c_49 (by decide)) ?_
        intro _
        refine lv_aload_n hx hb dX6_readStatement_50 rfl (lv_at hl 2 rfl) ?_
        refine lv_bipush (v := 8) hx hb dX6_readStatement_51 (by decide) ?_
        have hPc := hP.sub (ws' := [(h0, .inr (6, [.ref d_tape, .int w_pr_47, .int n_nu])), (d_tape, .inr (9, [.ref p_bytes, .ref p_ts, .ref p_tc, .int n_ta, .int n_to, .int n_tl])), (p_tc, .inl (k_tc, 600, .inl f_tc))]) [7, 8, 9] rfl
        have hDc := hD.sub (ws' := [(h0, .inr (6, [.ref d_tape, .int w_pr_47, .int n_nu])), (d_tape, .inr (9, [.ref p_bytes, .ref p_ts, .ref p_tc, .int n_ta, .int n_to, .int n_tl])), (p_tc, .inl (k_tc, 600, .inl f_tc))]) [7, 8, 9] (by decide) rfl
        have hKc := hK.sub (tys' := [(k_tc, .int)]) [0] rfl
        have hFc := va_free (wc := [(h0, .inr (6, [.ref d_tape, .int w_pr_47, .int n_nu])), (d_tape, .inr (9, [.ref p_bytes, .ref p_ts, .ref p_tc, .int n_ta, .int n_to, .int n_tl])), (p_tc, .inl (k_tc, 600, .inl f_tc))]) hD hS hA [7, 8, 9] rfl
        refine va_calli (va_runV (C := RX6) (As := [.int 8]) (rest := []) ⟨hx, hb, hml, hown, htb⟩ (kX6_take l dC dI H.size h0 d_tape w_pr_47 n_nu p_bytes p_ts p_tc n_ta n_to n_tl k_tc f_tc 8 yq) ⟨callB_of 1 htb (gd_c m_922) rfl rfl rfl (htb _ m_11) (htb _ m_919) hdX6_take ⟨(Nat.le_of_ble_eq_true rfl), (Nat.le_of_ble_eq_true rfl)⟩, htb _ m_921, htb _ ms_24⟩ ⟨pcW_blind, va_recv hKc hPc (ci := 6) (q0 := 0) rfl rfl, pcW_at hPc hKc hDc hN⟩ rfl rfl hl.1 rfl (lv_room (Nat.le_of_ble_eq_true rfl)) dX6_readStatement_53 ⟨(Nat.le_of_ble_eq_true rfl), (Nat.le_of_ble_eq_true rfl)⟩) hS (fun q _ h => hFc q h) hFc (fun r_50 u t H1 locs1 ht hvm h_51 hB hz1 hk1 hS1 => ?_)
        obtain ⟨w_pr_52, hP1, hK1, hD1⟩ := hB
        rw [ht] at hP1
        obtain ⟨hPn, hDn⟩ := va_join (wr := [(b0, .inr (5, [.ref b_deed, .ref b_value, .ref b_tests, .ref b_thing, .ref b_sign, .ref b_number, .int n_bk])), (b_deed, .inl (k_bi, 16, .inl f_deed)), (b_value, .inl (k_bi, 16, .inl f_value)), (b_tests, .inl (k_bi, 16, .inl f_tests)), (b_thing, .inl (k_bi, 48, .inl f_thing)), (b_sign, .inl (k_bi, 48, .inl f_sign)), (b_number, .inl (k_bi, 48, .inl f_number))]) (w1 := [(h0, .inr (6, [.ref d_tape, .int w_pr_52, .int n_nu])), (d_tape, .inr (9, [.ref p_bytes, .ref p_ts, .ref p_tc, .int n_ta, .int n_to, .int n_tl])), (p_tc, .inl (k_tc, 600, .inl f_tc))]) hP hD [7, 8, 9] [0, 1, 2, 3, 4, 5, 6] rfl rfl (by decide) (by decide) hk1 hFc hP1 hD1
        clear hP1 hD1 hK1
        clear hP hD hS hPc hDc hKc hFc hk1 hz1 ht hvm
        clear t
        revert hS1 hPn hDn; generalize H1 = H; generalize locs1 = locs; intro hS hP hD
        change va_P (dC, dI) vwCl [(b0, .inr (5, [.ref b_deed, .ref b_value, .ref b_tests, .ref b_thing, .ref b_sign, .ref b_number, .int n_bk])), (b_deed, .inl (k_bi, 16, .inl f_deed)), (b_value, .inl (k_bi, 16, .inl f_value)), (b_tests, .inl (k_bi, 16, .inl f_tests)), (b_thing, .inl (k_bi, 48, .inl f_thing)), (b_sign, .inl (k_bi, 48, .inl f_sign)), (b_number, .inl (k_bi, 48, .inl f_number)), (h0, .inr (6, [.ref d_tape, .int w_pr_52, .int n_nu])), (d_tape, .inr (9, [.ref p_bytes, .ref p_ts, .ref p_tc, .int n_ta, .int n_to, .int n_tl])), (p_tc, .inl (k_tc, 600, .inl f_tc))] H at hP
        change va_D A [(b0, .inr (5, [.ref b_deed, .ref b_value, .ref b_tests, .ref b_thing, .ref b_sign, .ref b_number, .int n_bk])), (b_deed, .inl (k_bi, 16, .inl f_deed)), (b_value, .inl (k_bi, 16, .inl f_value)), (b_tests, .inl (k_bi, 16, .inl f_tests)), (b_thing, .inl (k_bi, 48, .inl f_thing)), (b_sign, .inl (k_bi, 48, .inl f_sign)), (b_number, .inl (k_bi, 48, .inl f_number)), (h0, .inr (6, [.ref d_tape, .int w_pr_52, .int n_nu])), (d_tape, .inr (9, [.ref p_bytes, .ref p_ts, .ref p_tc, .int n_ta, .int n_to, .int n_tl])), (p_tc, .inl (k_tc, 600, .inl f_tc))] at hD
        rcases h_51 with ⟨rfl, h_51⟩ | ⟨rfl, h_51⟩
        · refine lv_if_eq (tgt := 67) hx hb dX6_readStatement_56 (by decide) (fun c_53 => absurd c_53 (by decide)) ?_
          intro _
          refine lv_aload_n hx hb dX6_readStatement_59 rfl (lv_at hl 2 rfl) ?_
          refine lv_aload_n hx hb dX6_readStatement_60 rfl (lv_at hl 3 rfl) ?_
          have hPc := hP.sub (ws' := [(h0, .inr (6, [.ref d_tape, .int w_pr_52, .int n_nu])), (d_tape, .inr (9, [.ref p_bytes, .ref p_ts, .ref p_tc, .int n_ta, .int n_to, .int n_tl])), (p_tc, .inl (k_tc, 600, .inl f_tc)), (b0, .inr (5, [.ref b_deed, .ref b_value, .ref b_tests, .ref b_thing, .ref b_sign, .ref b_number, .int n_bk])), (b_tests, .inl (k_bi, 16, .inl f_tests)), (b_thing, .inl (k_bi, 48, .inl f_thing)), (b_sign, .inl (k_bi, 48, .inl f_sign)), (b_number, .inl (k_bi, 48, .inl f_number))]) [7, 8, 9, 0, 3, 4, 5, 6] rfl
          have hDc := hD.sub (ws' := [(h0, .inr (6, [.ref d_tape, .int w_pr_52, .int n_nu])), (d_tape, .inr (9, [.ref p_bytes, .ref p_ts, .ref p_tc, .int n_ta, .int n_to, .int n_tl])), (p_tc, .inl (k_tc, 600, .inl f_tc)), (b0, .inr (5, [.ref b_deed, .ref b_value, .ref b_tests, .ref b_thing, .ref b_sign, .ref b_number, .int n_bk])), (b_tests, .inl (k_bi, 16, .inl f_tests)), (b_thing, .inl (k_bi, 48, .inl f_thing)), (b_sign, .inl (k_bi, 48, .inl f_sign)), (b_number, .inl (k_bi, 48, .inl f_number))]) [7, 8, 9, 0, 3, 4, 5, 6] (by decide) rfl
          have hKc := hK.sub (tys' := [(k_tc, .int), (k_bi, .int)]) [0, 1] rfl
          have hFc := va_free (wc := [(h0, .inr (6, [.ref d_tape, .int w_pr_52, .int n_nu])), (d_tape, .inr (9, [.ref p_bytes, .ref p_ts, .ref p_tc, .int n_ta, .int n_to, .int n_tl])), (p_tc, .inl (k_tc, 600, .inl f_tc)), (b0, .inr (5, [.ref b_deed, .ref b_value, .ref b_tests, .ref b_thing, .ref b_sign, .ref b_number, .int n_bk])), (b_tests, .inl (k_bi, 16, .inl f_tests)), (b_thing, .inl (k_bi, 48, .inl f_thing)), (b_sign, .inl (k_bi, 48, .inl f_sign)), (b_number, .inl (k_bi, 48, .inl f_number))]) hD hS hA [7, 8, 9, 0, 3, 4, 5, 6] rfl
          refine va_calli (va_runV (C := RX6) (As := [.ref b0]) (rest := []) ⟨hx, hb, hml, hown, htb⟩ (kX6_readTests l dC dI H.size h0 d_tape w_pr_52 n_nu p_bytes p_ts p_tc n_ta n_to n_tl k_tc f_tc b0 b_deed b_value b_tests b_thing b_sign b_number n_bk k_bi f_tests f_thing f_sign f_number yq yk yt) ⟨callB_of 1 htb (gd_c m_943) rfl rfl rfl (htb _ m_11) (htb _ m_940) hdX6_readTests ⟨(Nat.le_of_ble_eq_true rfl), (Nat.le_of_ble_eq_true rfl)⟩, htb _ m_942, htb _ ms_27⟩ ⟨pcW_blind, va_recv hKc hPc (ci := 6) (q0 := 0) rfl rfl, pcW_at hPc hKc hDc hN⟩ rfl rfl hl.1 rfl (lv_room (Nat.le_of_ble_eq_true rfl)) dX6_readStatement_61 ⟨(Nat.le_of_ble_eq_true rfl), (Nat.le_of_ble_eq_true rfl)⟩) hS (fun q _ h => hFc q h) hFc (fun r_54 u t H1 locs1 ht hvm h_55 hB hz1 hk1 hS1 => ?_)
          obtain ⟨w_pr_56, w_nu_57, w_tests_58, w_thing_59, w_sign_60, w_number_61, e_62, hP1, hK1, hD1⟩ := hB
          rw [ht] at hP1
          obtain ⟨hPn, hDn⟩ := va_join (wr := [(b_deed, .inl (k_bi, 16, .inl f_deed)), (b_value, .inl (k_bi, 16, .inl f_value))]) (w1 := [(h0, .inr (6, [.ref d_tape, .int w_pr_56, .int w_nu_57])), (d_tape, .inr (9, [.ref p_bytes, .ref p_ts, .ref p_tc, .int n_ta, .int n_to, .int n_tl])), (p_tc, .inl (k_tc, 600, .inl f_tc)), (b0, .inr (5, [.ref b_deed, .ref b_value, .ref b_tests, .ref b_thing, .ref b_sign, .ref b_number, .int n_bk])), (b_tests, .inl (k_bi, 16, .inl w_tests_58)), (b_thing, .inl (k_bi, 48, .inl w_thing_59)), (b_sign, .inl (k_bi, 48, .inl w_sign_60)), (b_number, .inl (k_bi, 48, .inl w_number_61))]) hP hD [7, 8, 9, 0, 3, 4, 5, 6] [1, 2] rfl rfl (by decide) (by decide) hk1 hFc hP1 hD1
          clear hP1 hD1 hK1
          clear hP hD hS hPc hDc hKc hFc hk1 hz1 ht hvm
          clear t
          revert hS1 hPn hDn; generalize H1 = H; generalize locs1 = locs; intro hS hP hD
          change va_P (dC, dI) vwCl [(b_deed, .inl (k_bi, 16, .inl f_deed)), (b_value, .inl (k_bi, 16, .inl f_value)), (h0, .inr (6, [.ref d_tape, .int w_pr_56, .int w_nu_57])), (d_tape, .inr (9, [.ref p_bytes, .ref p_ts, .ref p_tc, .int n_ta, .int n_to, .int n_tl])), (p_tc, .inl (k_tc, 600, .inl f_tc)), (b0, .inr (5, [.ref b_deed, .ref b_value, .ref b_tests, .ref b_thing, .ref b_sign, .ref b_number, .int n_bk])), (b_tests, .inl (k_bi, 16, .inl w_tests_58)), (b_thing, .inl (k_bi, 48, .inl w_thing_59)), (b_sign, .inl (k_bi, 48, .inl w_sign_60)), (b_number, .inl (k_bi, 48, .inl w_number_61))] H at hP
          change va_D A [(b_deed, .inl (k_bi, 16, .inl f_deed)), (b_value, .inl (k_bi, 16, .inl f_value)), (h0, .inr (6, [.ref d_tape, .int w_pr_56, .int w_nu_57])), (d_tape, .inr (9, [.ref p_bytes, .ref p_ts, .ref p_tc, .int n_ta, .int n_to, .int n_tl])), (p_tc, .inl (k_tc, 600, .inl f_tc)), (b0, .inr (5, [.ref b_deed, .ref b_value, .ref b_tests, .ref b_thing, .ref b_sign, .ref b_number, .int n_bk])), (b_tests, .inl (k_bi, 16, .inl w_tests_58)), (b_thing, .inl (k_bi, 48, .inl w_thing_59)), (b_sign, .inl (k_bi, 48, .inl w_sign_60)), (b_number, .inl (k_bi, 48, .inl w_number_61))] at hD
          rcases h_55 with ⟨rfl, h_55⟩ | ⟨rfl, h_55⟩
          · refine lv_if_ne (tgt := 69) hx hb dX6_readStatement_64 (by decide) ?_ (fun c_63 => absurd c_63 (by decide))
            intro _
            refine lv_iload_n hx hb dX6_readStatement_69 rfl (lv_at hl 1 rfl) ?_
            refine lv_if_ne (tgt := 90) hx hb dX6_readStatement_70 (by decide) (fun c_64 => absurd (by decide) c_64) ?_
            intro _
            refine lv_aload_n hx hb dX6_readStatement_73 rfl (lv_at hl 2 rfl) ?_
            refine lv_bipush (v := 10) hx hb dX6_readStatement_74 (by decide) ?_
            have hPc := hP.sub (ws' := [(h0, .inr (6, [.ref d_tape, .int w_pr_56, .int w_nu_57])), (d_tape, .inr (9, [.ref p_bytes, .ref p_ts, .ref p_tc, .int n_ta, .int n_to, .int n_tl])), (p_tc, .inl (k_tc, 600, .inl f_tc))]) [2, 3, 4] rfl
            have hDc := hD.sub (ws' := [(h0, .inr (6, [.ref d_tape, .int w_pr_56, .int w_nu_57])), (d_tape, .inr (9, [.ref p_bytes, .ref p_ts, .ref p_tc, .int n_ta, .int n_to, .int n_tl])), (p_tc, .inl (k_tc, 600, .inl f_tc))]) [2, 3, 4] (by decide) rfl
            have hKc := hK.sub (tys' := [(k_tc, .int)]) [0] rfl
            have hFc := va_free (wc := [(h0, .inr (6, [.ref d_tape, .int w_pr_56, .int w_nu_57])), (d_tape, .inr (9, [.ref p_bytes, .ref p_ts, .ref p_tc, .int n_ta, .int n_to, .int n_tl])), (p_tc, .inl (k_tc, 600, .inl f_tc))]) hD hS hA [2, 3, 4] rfl
            refine va_calli (va_runV (C := RX6) (As := [.int 10]) (rest := []) ⟨hx, hb, hml, hown, htb⟩ (kX6_take l dC dI H.size h0 d_tape w_pr_56 w_nu_57 p_bytes p_ts p_tc n_ta n_to n_tl k_tc f_tc 10 yq) ⟨callB_of 1 htb (gd_c m_922) rfl rfl rfl (htb _ m_11) (htb _ m_919) hdX6_take ⟨(Nat.le_of_ble_eq_true rfl), (Nat.le_of_ble_eq_true rfl)⟩, htb _ m_921, htb _ ms_24⟩ ⟨pcW_blind, va_recv hKc hPc (ci := 6) (q0 := 0) rfl rfl, pcW_at hPc hKc hDc hN⟩ rfl rfl hl.1 rfl (lv_room (Nat.le_of_ble_eq_true rfl)) dX6_readStatement_76 ⟨(Nat.le_of_ble_eq_true rfl), (Nat.le_of_ble_eq_true rfl)⟩) hS (fun q _ h => hFc q h) hFc (fun r_65 u t H1 locs1 ht hvm h_66 hB hz1 hk1 hS1 => ?_)
            obtain ⟨w_pr_67, hP1, hK1, hD1⟩ := hB
            rw [ht] at hP1
            obtain ⟨hPn, hDn⟩ := va_join (wr := [(b_deed, .inl (k_bi, 16, .inl f_deed)), (b_value, .inl (k_bi, 16, .inl f_value)), (b0, .inr (5, [.ref b_deed, .ref b_value, .ref b_tests, .ref b_thing, .ref b_sign, .ref b_number, .int n_bk])), (b_tests, .inl (k_bi, 16, .inl w_tests_58)), (b_thing, .inl (k_bi, 48, .inl w_thing_59)), (b_sign, .inl (k_bi, 48, .inl w_sign_60)), (b_number, .inl (k_bi, 48, .inl w_number_61))]) (w1 := [(h0, .inr (6, [.ref d_tape, .int w_pr_67, .int w_nu_57])), (d_tape, .inr (9, [.ref p_bytes, .ref p_ts, .ref p_tc, .int n_ta, .int n_to, .int n_tl])), (p_tc, .inl (k_tc, 600, .inl f_tc))]) hP hD [2, 3, 4] [0, 1, 5, 6, 7, 8, 9] rfl rfl (by decide) (by decide) hk1 hFc hP1 hD1
            clear hP1 hD1 hK1
            clear hP hD hS hPc hDc hKc hFc hk1 hz1 ht hvm
            clear t
            revert hS1 hPn hDn; generalize H1 = H; generalize locs1 = locs; intro hS hP hD
            change va_P (dC, dI) vwCl [(b_deed, .inl (k_bi, 16, .inl f_deed)), (b_value, .inl (k_bi, 16, .inl f_value)), (b0, .inr (5, [.ref b_deed, .ref b_value, .ref b_tests, .ref b_thing, .ref b_sign, .ref b_number, .int n_bk])), (b_tests, .inl (k_bi, 16, .inl w_tests_58)), (b_thing, .inl (k_bi, 48, .inl w_thing_59)), (b_sign, .inl (k_bi, 48, .inl w_sign_60)), (b_number, .inl (k_bi, 48, .inl w_number_61)), (h0, .inr (6, [.ref d_tape, .int w_pr_67, .int w_nu_57])), (d_tape, .inr (9, [.ref p_bytes, .ref p_ts, .ref p_tc, .int n_ta, .int n_to, .int n_tl])), (p_tc, .inl (k_tc, 600, .inl f_tc))] H at hP
            change va_D A [(b_deed, .inl (k_bi, 16, .inl f_deed)), (b_value, .inl (k_bi, 16, .inl f_value)), (b0, .inr (5, [.ref b_deed, .ref b_value, .ref b_tests, .ref b_thing, .ref b_sign, .ref b_number, .int n_bk])), (b_tests, .inl (k_bi, 16, .inl w_tests_58)), (b_thing, .inl (k_bi, 48, .inl w_thing_59)), (b_sign, .inl (k_bi, 48, .inl w_sign_60)), (b_number, .inl (k_bi, 48, .inl w_number_61)), (h0, .inr (6, [.ref d_tape, .int w_pr_67, .int w_nu_57])), (d_tape, .inr (9, [.ref p_bytes, .ref p_ts, .ref p_tc, .int n_ta, .int n_to, .int n_tl])), (p_tc, .inl (k_tc, 600, .inl f_tc))] at hD
            rcases h_66 with ⟨rfl, h_66⟩ | ⟨rfl, h_66⟩
            · refine lv_if_eq (tgt := 94) hx hb dX6_readStatement_79 (by decide) (fun c_68 => absurd c_68 (by decide)) ?_
              intro _
              refine lv_aload_n hx hb dX6_readStatement_82 rfl (lv_at hl 2 rfl) ?_
              refine lv_aload_n hx hb dX6_readStatement_83 rfl (lv_at hl 3 rfl) ?_
              have hPc := hP.sub (ws' := [(h0, .inr (6, [.ref d_tape, .int w_pr_67, .int w_nu_57])), (d_tape, .inr (9, [.ref p_bytes, .ref p_ts, .ref p_tc, .int n_ta, .int n_to, .int n_tl])), (p_tc, .inl (k_tc, 600, .inl f_tc)), (b0, .inr (5, [.ref b_deed, .ref b_value, .ref b_tests, .ref b_thing, .ref b_sign, .ref b_number, .int n_bk])), (b_deed, .inl (k_bi, 16, .inl f_deed)), (b_value, .inl (k_bi, 16, .inl f_value))]) [7, 8, 9, 2, 0, 1] rfl
              have hDc := hD.sub (ws' := [(h0, .inr (6, [.ref d_tape, .int w_pr_67, .int w_nu_57])), (d_tape, .inr (9, [.ref p_bytes, .ref p_ts, .ref p_tc, .int n_ta, .int n_to, .int n_tl])), (p_tc, .inl (k_tc, 600, .inl f_tc)), (b0, .inr (5, [.ref b_deed, .ref b_value, .ref b_tests, .ref b_thing, .ref b_sign, .ref b_number, .int n_bk])), (b_deed, .inl (k_bi, 16, .inl f_deed)), (b_value, .inl (k_bi, 16, .inl f_value))]) [7, 8, 9, 2, 0, 1] (by decide) rfl
              have hKc := hK.sub (tys' := [(k_tc, .int), (k_bi, .int)]) [0, 1] rfl
              have hFc := va_free (wc := [(h0, .inr (6, [.ref d_tape, .int w_pr_67, .int w_nu_57])), (d_tape, .inr (9, [.ref p_bytes, .ref p_ts, .ref p_tc, .int n_ta, .int n_to, .int n_tl])), (p_tc, .inl (k_tc, 600, .inl f_tc)), (b0, .inr (5, [.ref b_deed, .ref b_value, .ref b_tests, .ref b_thing, .ref b_sign, .ref b_number, .int n_bk])), (b_deed, .inl (k_bi, 16, .inl f_deed)), (b_value, .inl (k_bi, 16, .inl f_value))]) hD hS hA [7, 8, 9, 2, 0, 1] rfl
              refine va_calli (va_runV (C := RX6) (As := [.ref b0]) (rest := []) ⟨hx, hb, hml, hown, htb⟩ (kX6_readDeed l dC dI H.size h0 d_tape w_pr_67 w_nu_57 p_bytes p_ts p_tc n_ta n_to n_tl k_tc f_tc b0 b_deed b_value b_tests b_thing b_sign b_number n_bk k_bi f_deed f_value yq yk) ⟨callB_of 1 htb (gd_c m_955) rfl rfl rfl (htb _ m_11) (htb _ m_952) hdX6_readDeed ⟨(Nat.le_of_ble_eq_true rfl), (Nat.le_of_ble_eq_true rfl)⟩, htb _ m_954, htb _ ms_29⟩ ⟨pcW_blind, va_recv hKc hPc (ci := 6) (q0 := 0) rfl rfl, pcW_at hPc hKc hDc hN⟩ rfl rfl hl.1 rfl (lv_room (Nat.le_of_ble_eq_true rfl)) dX6_readStatement_84 ⟨(Nat.le_of_ble_eq_true rfl), (Nat.le_of_ble_eq_true rfl)⟩) hS (fun q _ h => hFc q h) hFc (fun r_69 u t H1 locs1 ht hvm h_70 hB hz1 hk1 hS1 => ?_)
              obtain ⟨w_pr_71, w_nu_72, w_deed_73, w_value_74, hP1, hK1, hD1⟩ := hB
              rw [ht] at hP1
              obtain ⟨hPn, hDn⟩ := va_join (wr := [(b_tests, .inl (k_bi, 16, .inl w_tests_58)), (b_thing, .inl (k_bi, 48, .inl w_thing_59)), (b_sign, .inl (k_bi, 48, .inl w_sign_60)), (b_number, .inl (k_bi, 48, .inl w_number_61))]) (w1 := [(h0, .inr (6, [.ref d_tape, .int w_pr_71, .int w_nu_72])), (d_tape, .inr (9, [.ref p_bytes, .ref p_ts, .ref p_tc, .int n_ta, .int n_to, .int n_tl])), (p_tc, .inl (k_tc, 600, .inl f_tc)), (b0, .inr (5, [.ref b_deed, .ref b_value, .ref b_tests, .ref b_thing, .ref b_sign, .ref b_number, .int n_bk])), (b_deed, .inl (k_bi, 16, .inl w_deed_73)), (b_value, .inl (k_bi, 16, .inl w_value_74))]) hP hD [7, 8, 9, 2, 0, 1] [3, 4, 5, 6] rfl rfl (by decide) (by decide) hk1 hFc hP1 hD1
              clear hP1 hD1 hK1
              clear hP hD hS hPc hDc hKc hFc hk1 hz1 ht hvm
              clear t
              revert hS1 hPn hDn; generalize H1 = H; generalize locs1 = locs; intro hS hP hD
              change va_P (dC, dI) vwCl [(b_tests, .inl (k_bi, 16, .inl w_tests_58)), (b_thing, .inl (k_bi, 48, .inl w_thing_59)), (b_sign, .inl (k_bi, 48, .inl w_sign_60)), (b_number, .inl (k_bi, 48, .inl w_number_61)), (h0, .inr (6, [.ref d_tape, .int w_pr_71, .int w_nu_72])), (d_tape, .inr (9, [.ref p_bytes, .ref p_ts, .ref p_tc, .int n_ta, .int n_to, .int n_tl])), (p_tc, .inl (k_tc, 600, .inl f_tc)), (b0, .inr (5, [.ref b_deed, .ref b_value, .ref b_tests, .ref b_thing, .ref b_sign, .ref b_number, .int n_bk])), (b_deed, .inl (k_bi, 16, .inl w_deed_73)), (b_value, .inl (k_bi, 16, .inl w_value_74))] H at hP
              change va_D A [(b_tests, .inl (k_bi, 16, .inl w_tests_58)), (b_thing, .inl (k_bi, 48, .inl w_thing_59)), (b_sign, .inl (k_bi, 48, .inl w_sign_60)), (b_number, .inl (k_bi, 48, .inl w_number_61)), (h0, .inr (6, [.ref d_tape, .int w_pr_71, .int w_nu_72])), (d_tape, .inr (9, [.ref p_bytes, .ref p_ts, .ref p_tc, .int n_ta, .int n_to, .int n_tl])), (p_tc, .inl (k_tc, 600, .inl f_tc)), (b0, .inr (5, [.ref b_deed, .ref b_value, .ref b_tests, .ref b_thing, .ref b_sign, .ref b_number, .int n_bk])), (b_deed, .inl (k_bi, 16, .inl w_deed_73)), (b_value, .inl (k_bi, 16, .inl w_value_74))] at hD
              rcases h_70 with ⟨rfl, h_70⟩ | ⟨rfl, h_70⟩
              · refine lv_if_eq (tgt := 94) hx hb dX6_readStatement_87 (by decide) (fun c_75 => absurd c_75 (by decide)) ?_
                intro _
                refine lv_iconst (v := 1) hx hb dX6_readStatement_90 (by decide) ?_
                refine lv_goto (tgt := 95) hx hb dX6_readStatement_91 (by decide) ?_
                refine lv_istore (lv' := [(4, .int 1), (3, .int 1), (2, .int 0), (0, .ref h0), (1, .ref b0)]) hx hb dX6_readStatement_95 hl (by decide) rfl ?_
                clear hl; intro ls hl
                refine lv_iload hx hb dX6_readStatement_97 (lv_at hl 0 rfl) ?_
                refine lv_if_eq (tgt := 111) hx hb dX6_readStatement_99 (by decide) (fun c_76 => absurd c_76 (by decide)) ?_
                intro _
                refine lv_aload_n hx hb dX6_readStatement_102 rfl (lv_at hl 3 rfl) ?_
                refine lv_bipush (v := 59) hx hb dX6_readStatement_103 (by decide) ?_
                have hPc := hP.sub (ws' := [(h0, .inr (6, [.ref d_tape, .int w_pr_71, .int w_nu_72])), (d_tape, .inr (9, [.ref p_bytes, .ref p_ts, .ref p_tc, .int n_ta, .int n_to, .int n_tl])), (p_tc, .inl (k_tc, 600, .inl f_tc))]) [4, 5, 6] rfl
                have hDc := hD.sub (ws' := [(h0, .inr (6, [.ref d_tape, .int w_pr_71, .int w_nu_72])), (d_tape, .inr (9, [.ref p_bytes, .ref p_ts, .ref p_tc, .int n_ta, .int n_to, .int n_tl])), (p_tc, .inl (k_tc, 600, .inl f_tc))]) [4, 5, 6] (by decide) rfl
                have hKc := hK.sub (tys' := [(k_tc, .int)]) [0] rfl
                have hFc := va_free (wc := [(h0, .inr (6, [.ref d_tape, .int w_pr_71, .int w_nu_72])), (d_tape, .inr (9, [.ref p_bytes, .ref p_ts, .ref p_tc, .int n_ta, .int n_to, .int n_tl])), (p_tc, .inl (k_tc, 600, .inl f_tc))]) hD hS hA [4, 5, 6] rfl
                refine va_calli (va_runV (C := RX6) (As := [.int 59]) (rest := []) ⟨hx, hb, hml, hown, htb⟩ (kX6_take l dC dI H.size h0 d_tape w_pr_71 w_nu_72 p_bytes p_ts p_tc n_ta n_to n_tl k_tc f_tc 59 yq) ⟨callB_of 1 htb (gd_c m_922) rfl rfl rfl (htb _ m_11) (htb _ m_919) hdX6_take ⟨(Nat.le_of_ble_eq_true rfl), (Nat.le_of_ble_eq_true rfl)⟩, htb _ m_921, htb _ ms_24⟩ ⟨pcW_blind, va_recv hKc hPc (ci := 6) (q0 := 0) rfl rfl, pcW_at hPc hKc hDc hN⟩ rfl rfl hl.1 rfl (lv_room (Nat.le_of_ble_eq_true rfl)) dX6_readStatement_105 ⟨(Nat.le_of_ble_eq_true rfl), (Nat.le_of_ble_eq_true rfl)⟩) hS (fun q _ h => hFc q h) hFc (fun r_77 u t H1 locs1 ht hvm h_78 hB hz1 hk1 hS1 => ?_)
                obtain ⟨w_pr_79, hP1, hK1, hD1⟩ := hB
                rw [ht] at hP1
                obtain ⟨hPn, hDn⟩ := va_join (wr := [(b_tests, .inl (k_bi, 16, .inl w_tests_58)), (b_thing, .inl (k_bi, 48, .inl w_thing_59)), (b_sign, .inl (k_bi, 48, .inl w_sign_60)), (b_number, .inl (k_bi, 48, .inl w_number_61)), (b0, .inr (5, [.ref b_deed, .ref b_value, .ref b_tests, .ref b_thing, .ref b_sign, .ref b_number, .int n_bk])), (b_deed, .inl (k_bi, 16, .inl w_deed_73)), (b_value, .inl (k_bi, 16, .inl w_value_74))]) (w1 := [(h0, .inr (6, [.ref d_tape, .int w_pr_79, .int w_nu_72])), (d_tape, .inr (9, [.ref p_bytes, .ref p_ts, .ref p_tc, .int n_ta, .int n_to, .int n_tl])), (p_tc, .inl (k_tc, 600, .inl f_tc))]) hP hD [4, 5, 6] [0, 1, 2, 3, 7, 8, 9] rfl rfl (by decide) (by decide) hk1 hFc hP1 hD1
                clear hP1 hD1 hK1
                clear hP hD hS hPc hDc hKc hFc hk1 hz1 ht hvm
                clear t
                revert hS1 hPn hDn; generalize H1 = H; generalize locs1 = locs; intro hS hP hD
                change va_P (dC, dI) vwCl [(b_tests, .inl (k_bi, 16, .inl w_tests_58)), (b_thing, .inl (k_bi, 48, .inl w_thing_59)), (b_sign, .inl (k_bi, 48, .inl w_sign_60)), (b_number, .inl (k_bi, 48, .inl w_number_61)), (b0, .inr (5, [.ref b_deed, .ref b_value, .ref b_tests, .ref b_thing, .ref b_sign, .ref b_number, .int n_bk])), (b_deed, .inl (k_bi, 16, .inl w_deed_73)), (b_value, .inl (k_bi, 16, .inl w_value_74)), (h0, .inr (6, [.ref d_tape, .int w_pr_79, .int w_nu_72])), (d_tape, .inr (9, [.ref p_bytes, .ref p_ts, .ref p_tc, .int n_ta, .int n_to, .int n_tl])), (p_tc, .inl (k_tc, 600, .inl f_tc))] H at hP
                change va_D A [(b_tests, .inl (k_bi, 16, .inl w_tests_58)), (b_thing, .inl (k_bi, 48, .inl w_thing_59)), (b_sign, .inl (k_bi, 48, .inl w_sign_60)), (b_number, .inl (k_bi, 48, .inl w_number_61)), (b0, .inr (5, [.ref b_deed, .ref b_value, .ref b_tests, .ref b_thing, .ref b_sign, .ref b_number, .int n_bk])), (b_deed, .inl (k_bi, 16, .inl w_deed_73)), (b_value, .inl (k_bi, 16, .inl w_value_74)), (h0, .inr (6, [.ref d_tape, .int w_pr_79, .int w_nu_72])), (d_tape, .inr (9, [.ref p_bytes, .ref p_ts, .ref p_tc, .int n_ta, .int n_to, .int n_tl])), (p_tc, .inl (k_tc, 600, .inl f_tc))] at hD
                rcases h_78 with ⟨rfl, h_78⟩ | ⟨rfl, h_78⟩
                · refine lv_if_ne (tgt := 113) hx hb dX6_readStatement_108 (by decide) ?_ (fun c_80 => absurd c_80 (by decide))
                  intro _
                  refine lv_aload_n hx hb dX6_readStatement_113 rfl (lv_at hl 4 rfl) ?_
                  have hPc := hP.sub (ws' := [(b0, .inr (5, [.ref b_deed, .ref b_value, .ref b_tests, .ref b_thing, .ref b_sign, .ref b_number, .int n_bk]))]) [4] rfl
                  have hDc := hD.sub (ws' := [(b0, .inr (5, [.ref b_deed, .ref b_value, .ref b_tests, .ref b_thing, .ref b_sign, .ref b_number, .int n_bk]))]) [4] (by decide) rfl
                  have hKc := hK.sub (tys' := []) [] rfl
                  have hFc := va_free (wc := [(b0, .inr (5, [.ref b_deed, .ref b_value, .ref b_tests, .ref b_thing, .ref b_sign, .ref b_number, .int n_bk]))]) hD hS hA [4] rfl
                  refine va_callv (va_runV (C := RX5) (As := []) (rest := []) ⟨hx, hb, hml, hown, htb⟩ (kX5_endStatement l dC dI H.size b0 b_deed b_value b_tests b_thing b_sign b_number n_bk yk) ⟨callB_of 0 htb (gd_c m_959) rfl rfl rfl (htb _ m_12) (htb _ m_956) hdX5_endStatement ⟨(Nat.le_of_ble_eq_true rfl), (Nat.le_of_ble_eq_true rfl)⟩, htb _ m_957, htb _ m_958⟩ ⟨pcW_blind, va_recv hKc hPc (ci := 5) (q0 := 0) rfl rfl, pcW_at hPc hKc hDc hN⟩ rfl rfl hl.1 rfl (lv_room (Nat.le_of_ble_eq_true rfl)) dX6_readStatement_114 ⟨(Nat.le_of_ble_eq_true rfl), (Nat.le_of_ble_eq_true rfl)⟩) hS (fun q _ h => hFc q h) hFc (fun u t H1 locs1 ht hvm h_82 hB hz1 hk1 hS1 => ?_)
                  obtain ⟨w_bk_83, e_84, hP1, hK1, hD1⟩ := hB
                  rw [ht] at hP1
                  obtain ⟨hPn, hDn⟩ := va_join (wr := [(b_tests, .inl (k_bi, 16, .inl w_tests_58)), (b_thing, .inl (k_bi, 48, .inl w_thing_59)), (b_sign, .inl (k_bi, 48, .inl w_sign_60)), (b_number, .inl (k_bi, 48, .inl w_number_61)), (b_deed, .inl (k_bi, 16, .inl w_deed_73)), (b_value, .inl (k_bi, 16, .inl w_value_74)), (h0, .inr (6, [.ref d_tape, .int w_pr_79, .int w_nu_72])), (d_tape, .inr (9, [.ref p_bytes, .ref p_ts, .ref p_tc, .int n_ta, .int n_to, .int n_tl])), (p_tc, .inl (k_tc, 600, .inl f_tc))]) (w1 := [(b0, .inr (5, [.ref b_deed, .ref b_value, .ref b_tests, .ref b_thing, .ref b_sign, .ref b_number, .int w_bk_83]))]) hP hD [4] [0, 1, 2, 3, 5, 6, 7, 8, 9] rfl rfl (by decide) (by decide) hk1 hFc hP1 hD1
                  clear hP1 hD1 hK1
                  clear hP hD hS hPc hDc hKc hFc hk1 hz1 ht hvm
                  clear t
                  revert hS1 hPn hDn; generalize H1 = H; generalize locs1 = locs; intro hS hP hD
                  change va_P (dC, dI) vwCl [(b_tests, .inl (k_bi, 16, .inl w_tests_58)), (b_thing, .inl (k_bi, 48, .inl w_thing_59)), (b_sign, .inl (k_bi, 48, .inl w_sign_60)), (b_number, .inl (k_bi, 48, .inl w_number_61)), (b_deed, .inl (k_bi, 16, .inl w_deed_73)), (b_value, .inl (k_bi, 16, .inl w_value_74)), (h0, .inr (6, [.ref d_tape, .int w_pr_79, .int w_nu_72])), (d_tape, .inr (9, [.ref p_bytes, .ref p_ts, .ref p_tc, .int n_ta, .int n_to, .int n_tl])), (p_tc, .inl (k_tc, 600, .inl f_tc)), (b0, .inr (5, [.ref b_deed, .ref b_value, .ref b_tests, .ref b_thing, .ref b_sign, .ref b_number, .int w_bk_83]))] H at hP
                  change va_D A [(b_tests, .inl (k_bi, 16, .inl w_tests_58)), (b_thing, .inl (k_bi, 48, .inl w_thing_59)), (b_sign, .inl (k_bi, 48, .inl w_sign_60)), (b_number, .inl (k_bi, 48, .inl w_number_61)), (b_deed, .inl (k_bi, 16, .inl w_deed_73)), (b_value, .inl (k_bi, 16, .inl w_value_74)), (h0, .inr (6, [.ref d_tape, .int w_pr_79, .int w_nu_72])), (d_tape, .inr (9, [.ref p_bytes, .ref p_ts, .ref p_tc, .int n_ta, .int n_to, .int n_tl])), (p_tc, .inl (k_tc, 600, .inl f_tc)), (b0, .inr (5, [.ref b_deed, .ref b_value, .ref b_tests, .ref b_thing, .ref b_sign, .ref b_number, .int w_bk_83]))] at hD
                  refine lv_iconst (v := 1) hx hb dX6_readStatement_117 (by decide) ?_
                  refine W.widen (k := 0) (n := 0) (Nat.le_of_ble_eq_true rfl) (Nat.le_of_ble_eq_true rfl) ?_
                  have hP9 := hP.sub (ws' := [(h0, .inr (6, [.ref d_tape, .int w_pr_79, .int w_nu_72])), (d_tape, .inr (9, [.ref p_bytes, .ref p_ts, .ref p_tc, .int n_ta, .int n_to, .int n_tl])), (p_tc, .inl (k_tc, 600, .inl f_tc)), (b0, .inr (5, [.ref b_deed, .ref b_value, .ref b_tests, .ref b_thing, .ref b_sign, .ref b_number, .int w_bk_83])), (b_deed, .inl (k_bi, 16, .inl w_deed_73)), (b_value, .inl (k_bi, 16, .inl w_value_74)), (b_tests, .inl (k_bi, 16, .inl w_tests_58)), (b_thing, .inl (k_bi, 48, .inl w_thing_59)), (b_sign, .inl (k_bi, 48, .inl w_sign_60)), (b_number, .inl (k_bi, 48, .inl w_number_61))]) [6, 7, 8, 9, 4, 5, 0, 1, 2, 3] rfl
                  have hD9 := hD.sub (ws' := [(h0, .inr (6, [.ref d_tape, .int w_pr_79, .int w_nu_72])), (d_tape, .inr (9, [.ref p_bytes, .ref p_ts, .ref p_tc, .int n_ta, .int n_to, .int n_tl])), (p_tc, .inl (k_tc, 600, .inl f_tc)), (b0, .inr (5, [.ref b_deed, .ref b_value, .ref b_tests, .ref b_thing, .ref b_sign, .ref b_number, .int w_bk_83])), (b_deed, .inl (k_bi, 16, .inl w_deed_73)), (b_value, .inl (k_bi, 16, .inl w_value_74)), (b_tests, .inl (k_bi, 16, .inl w_tests_58)), (b_thing, .inl (k_bi, 48, .inl w_thing_59)), (b_sign, .inl (k_bi, 48, .inl w_sign_60)), (b_number, .inl (k_bi, 48, .inl w_number_61))]) [6, 7, 8, 9, 4, 5, 0, 1, 2, 3] (by decide) rfl
                  have hK9 := hK.sub (tys' := []) [] rfl
                  exact W.zret (ty := .boolean) (v := 1) hx hb hr rfl (fun t ht hW => ⟨⟨1, (), rfl, (Or.inl ⟨rfl, (lg_X6_readStatement_11 n_ta n_to n_tl n_bk w_bk_83 yq yk h_2 h_42 h_46 h_51 h_55 h_66 h_70 h_78 e_84)⟩), ⟨w_pr_79, w_nu_72, w_bk_83, w_deed_73, w_value_74, w_tests_58, w_thing_59, w_sign_60, w_number_61, e_62, (lg_X6_readStatement_10 n_ta n_to n_tl n_bk w_bk_83 yq yk h_2 h_42 h_46 h_51 h_55 h_66 h_70 h_78 e_84), by rw [ht]; exact hP9, va_K.moved hW.alike hK9, hD9⟩⟩, hS.F ht⟩) hS.2.2 dX6_readStatement_118
                · refine lv_if_ne (tgt := 113) hx hb dX6_readStatement_108 (by decide) (fun c_85 => absurd (by decide) c_85) ?_
                  intro _
                  refine lv_iconst (v := 0) hx hb dX6_readStatement_111 (by decide) ?_
                  refine W.widen (k := 0) (n := 0) (Nat.le_of_ble_eq_true rfl) (Nat.le_of_ble_eq_true rfl) ?_
                  have hP9 := hP.sub (ws' := [(h0, .inr (6, [.ref d_tape, .int w_pr_79, .int w_nu_72])), (d_tape, .inr (9, [.ref p_bytes, .ref p_ts, .ref p_tc, .int n_ta, .int n_to, .int n_tl])), (p_tc, .inl (k_tc, 600, .inl f_tc)), (b0, .inr (5, [.ref b_deed, .ref b_value, .ref b_tests, .ref b_thing, .ref b_sign, .ref b_number, .int n_bk])), (b_deed, .inl (k_bi, 16, .inl w_deed_73)), (b_value, .inl (k_bi, 16, .inl w_value_74)), (b_tests, .inl (k_bi, 16, .inl w_tests_58)), (b_thing, .inl (k_bi, 48, .inl w_thing_59)), (b_sign, .inl (k_bi, 48, .inl w_sign_60)), (b_number, .inl (k_bi, 48, .inl w_number_61))]) [7, 8, 9, 4, 5, 6, 0, 1, 2, 3] rfl
                  have hD9 := hD.sub (ws' := [(h0, .inr (6, [.ref d_tape, .int w_pr_79, .int w_nu_72])), (d_tape, .inr (9, [.ref p_bytes, .ref p_ts, .ref p_tc, .int n_ta, .int n_to, .int n_tl])), (p_tc, .inl (k_tc, 600, .inl f_tc)), (b0, .inr (5, [.ref b_deed, .ref b_value, .ref b_tests, .ref b_thing, .ref b_sign, .ref b_number, .int n_bk])), (b_deed, .inl (k_bi, 16, .inl w_deed_73)), (b_value, .inl (k_bi, 16, .inl w_value_74)), (b_tests, .inl (k_bi, 16, .inl w_tests_58)), (b_thing, .inl (k_bi, 48, .inl w_thing_59)), (b_sign, .inl (k_bi, 48, .inl w_sign_60)), (b_number, .inl (k_bi, 48, .inl w_number_61))]) [7, 8, 9, 4, 5, 6, 0, 1, 2, 3] (by decide) rfl
                  have hK9 := hK.sub (tys' := []) [] rfl
                  exact W.zret (ty := .boolean) (v := 0) hx hb hr rfl (fun t ht hW => ⟨⟨0, (), rfl, (Or.inr (⟨rfl, (lg_X6_readStatement_13 n_ta n_to n_tl n_bk yq yk h_2 h_42 h_46 h_51 h_55 h_66 h_70 h_78)⟩)), ⟨w_pr_79, w_nu_72, n_bk, w_deed_73, w_value_74, w_tests_58, w_thing_59, w_sign_60, w_number_61, e_62, (lg_X6_readStatement_12 n_ta n_to n_tl n_bk yq yk h_2 h_42 h_46 h_51 h_55 h_66 h_70 h_78), by rw [ht]; exact hP9, va_K.moved hW.alike hK9, hD9⟩⟩, hS.F ht⟩) hS.2.2 dX6_readStatement_112
              · refine lv_if_eq (tgt := 94) hx hb dX6_readStatement_87 (by decide) ?_ (fun c_86 => absurd (by decide) c_86)
                intro _
                refine lv_iconst (v := 0) hx hb dX6_readStatement_94 (by decide) ?_
                refine lv_istore (lv' := [(4, .int 0), (3, .int 1), (2, .int 0), (0, .ref h0), (1, .ref b0)]) hx hb dX6_readStatement_95 hl (by decide) rfl ?_
                clear hl; intro ls hl
                refine lv_iload hx hb dX6_readStatement_97 (lv_at hl 0 rfl) ?_
                refine lv_if_eq (tgt := 111) hx hb dX6_readStatement_99 (by decide) ?_ (fun c_87 => absurd (by decide) c_87)
                intro _
                refine lv_iconst (v := 0) hx hb dX6_readStatement_111 (by decide) ?_
                refine W.widen (k := 0) (n := 0) (Nat.le_of_ble_eq_true rfl) (Nat.le_of_ble_eq_true rfl) ?_
                have hP9 := hP.sub (ws' := [(h0, .inr (6, [.ref d_tape, .int w_pr_71, .int w_nu_72])), (d_tape, .inr (9, [.ref p_bytes, .ref p_ts, .ref p_tc, .int n_ta, .int n_to, .int n_tl])), (p_tc, .inl (k_tc, 600, .inl f_tc)), (b0, .inr (5, [.ref b_deed, .ref b_value, .ref b_tests, .ref b_thing, .ref b_sign, .ref b_number, .int n_bk])), (b_deed, .inl (k_bi, 16, .inl w_deed_73)), (b_value, .inl (k_bi, 16, .inl w_value_74)), (b_tests, .inl (k_bi, 16, .inl w_tests_58)), (b_thing, .inl (k_bi, 48, .inl w_thing_59)), (b_sign, .inl (k_bi, 48, .inl w_sign_60)), (b_number, .inl (k_bi, 48, .inl w_number_61))]) [4, 5, 6, 7, 8, 9, 0, 1, 2, 3] rfl
                have hD9 := hD.sub (ws' := [(h0, .inr (6, [.ref d_tape, .int w_pr_71, .int w_nu_72])), (d_tape, .inr (9, [.ref p_bytes, .ref p_ts, .ref p_tc, .int n_ta, .int n_to, .int n_tl])), (p_tc, .inl (k_tc, 600, .inl f_tc)), (b0, .inr (5, [.ref b_deed, .ref b_value, .ref b_tests, .ref b_thing, .ref b_sign, .ref b_number, .int n_bk])), (b_deed, .inl (k_bi, 16, .inl w_deed_73)), (b_value, .inl (k_bi, 16, .inl w_value_74)), (b_tests, .inl (k_bi, 16, .inl w_tests_58)), (b_thing, .inl (k_bi, 48, .inl w_thing_59)), (b_sign, .inl (k_bi, 48, .inl w_sign_60)), (b_number, .inl (k_bi, 48, .inl w_number_61))]) [4, 5, 6, 7, 8, 9, 0, 1, 2, 3] (by decide) rfl
                have hK9 := hK.sub (tys' := []) [] rfl
                exact W.zret (ty := .boolean) (v := 0) hx hb hr rfl (fun t ht hW => ⟨⟨0, (), rfl, (Or.inr (⟨rfl, (lg_X6_readStatement_15 n_ta n_to n_tl n_bk yq yk h_2 h_42 h_46 h_51 h_55 h_66 h_70)⟩)), ⟨w_pr_71, w_nu_72, n_bk, w_deed_73, w_value_74, w_tests_58, w_thing_59, w_sign_60, w_number_61, e_62, (lg_X6_readStatement_14 n_ta n_to n_tl n_bk yq yk h_2 h_42 h_46 h_51 h_55 h_66 h_70), by rw [ht]; exact hP9, va_K.moved hW.alike hK9, hD9⟩⟩, hS.F ht⟩) hS.2.2 dX6_readStatement_112
            · refine lv_if_eq (tgt := 94) hx hb dX6_readStatement_79 (by decide) ?_ (fun c_88 => absurd (by decide) c_88)
              intro _
              refine lv_iconst (v := 0) hx hb dX6_readStatement_94 (by decide) ?_
              refine lv_istore (lv' := [(4, .int 0), (3, .int 1), (2, .int 0), (0, .ref h0), (1, .ref b0)]) hx hb dX6_readStatement_95 hl (by decide) rfl ?_
              clear hl; intro ls hl
              refine lv_iload hx hb dX6_readStatement_97 (lv_at hl 0 rfl) ?_
              refine lv_if_eq (tgt := 111) hx hb dX6_readStatement_99 (by decide) ?_ (fun c_89 => absurd (by decide) c_89)
              intro _
              refine lv_iconst (v := 0) hx hb dX6_readStatement_111 (by decide) ?_
              refine W.widen (k := 0) (n := 0) (Nat.le_of_ble_eq_true rfl) (Nat.le_of_ble_eq_true rfl) ?_
              have hP9 := hP.sub (ws' := [(h0, .inr (6, [.ref d_tape, .int w_pr_67, .int w_nu_57])), (d_tape, .inr (9, [.ref p_bytes, .ref p_ts, .ref p_tc, .int n_ta, .int n_to, .int n_tl])), (p_tc, .inl (k_tc, 600, .inl f_tc)), (b0, .inr (5, [.ref b_deed, .ref b_value, .ref b_tests, .ref b_thing, .ref b_sign, .ref b_number, .int n_bk])), (b_deed, .inl (k_bi, 16, .inl f_deed)), (b_value, .inl (k_bi, 16, .inl f_value)), (b_tests, .inl (k_bi, 16, .inl w_tests_58)), (b_thing, .inl (k_bi, 48, .inl w_thing_59)), (b_sign, .inl (k_bi, 48, .inl w_sign_60)), (b_number, .inl (k_bi, 48, .inl w_number_61))]) [7, 8, 9, 2, 0, 1, 3, 4, 5, 6] rfl
              have hD9 := hD.sub (ws' := [(h0, .inr (6, [.ref d_tape, .int w_pr_67, .int w_nu_57])), (d_tape, .inr (9, [.ref p_bytes, .ref p_ts, .ref p_tc, .int n_ta, .int n_to, .int n_tl])), (p_tc, .inl (k_tc, 600, .inl f_tc)), (b0, .inr (5, [.ref b_deed, .ref b_value, .ref b_tests, .ref b_thing, .ref b_sign, .ref b_number, .int n_bk])), (b_deed, .inl (k_bi, 16, .inl f_deed)), (b_value, .inl (k_bi, 16, .inl f_value)), (b_tests, .inl (k_bi, 16, .inl w_tests_58)), (b_thing, .inl (k_bi, 48, .inl w_thing_59)), (b_sign, .inl (k_bi, 48, .inl w_sign_60)), (b_number, .inl (k_bi, 48, .inl w_number_61))]) [7, 8, 9, 2, 0, 1, 3, 4, 5, 6] (by decide) rfl
              have hK9 := hK.sub (tys' := []) [] rfl
              exact W.zret (ty := .boolean) (v := 0) hx hb hr rfl (fun t ht hW => ⟨⟨0, (), rfl, (Or.inr (⟨rfl, (lg_X6_readStatement_17 n_ta n_to n_tl n_bk yq yk h_2 h_42 h_46 h_51 h_55 h_66)⟩)), ⟨w_pr_67, w_nu_57, n_bk, f_deed, f_value, w_tests_58, w_thing_59, w_sign_60, w_number_61, e_62, (lg_X6_readStatement_16 n_ta n_to n_tl n_bk yq yk h_2 h_42 h_46 h_51 h_55 h_66), by rw [ht]; exact hP9, va_K.moved hW.alike hK9, hD9⟩⟩, hS.F ht⟩) hS.2.2 dX6_readStatement_112
          · refine lv_if_ne (tgt := 69) hx hb dX6_readStatement_64 (by decide) (fun c_90 => absurd (by decide) c_90) ?_
            intro _
            refine lv_iconst (v := 0) hx hb dX6_readStatement_67 (by decide) ?_
            refine W.widen (k := 0) (n := 0) (Nat.le_of_ble_eq_true rfl) (Nat.le_of_ble_eq_true rfl) ?_
            have hP9 := hP.sub (ws' := [(h0, .inr (6, [.ref d_tape, .int w_pr_56, .int w_nu_57])), (d_tape, .inr (9, [.ref p_bytes, .ref p_ts, .ref p_tc, .int n_ta, .int n_to, .int n_tl])), (p_tc, .inl (k_tc, 600, .inl f_tc)), (b0, .inr (5, [.ref b_deed, .ref b_value, .ref b_tests, .ref b_thing, .ref b_sign, .ref b_number, .int n_bk])), (b_deed, .inl (k_bi, 16, .inl f_deed)), (b_value, .inl (k_bi, 16, .inl f_value)), (b_tests, .inl (k_bi, 16, .inl w_tests_58)), (b_thing, .inl (k_bi, 48, .inl w_thing_59)), (b_sign, .inl (k_bi, 48, .inl w_sign_60)), (b_number, .inl (k_bi, 48, .inl w_number_61))]) [2, 3, 4, 5, 0, 1, 6, 7, 8, 9] rfl
            have hD9 := hD.sub (ws' := [(h0, .inr (6, [.ref d_tape, .int w_pr_56, .int w_nu_57])), (d_tape, .inr (9, [.ref p_bytes, .ref p_ts, .ref p_tc, .int n_ta, .int n_to, .int n_tl])), (p_tc, .inl (k_tc, 600, .inl f_tc)), (b0, .inr (5, [.ref b_deed, .ref b_value, .ref b_tests, .ref b_thing, .ref b_sign, .ref b_number, .int n_bk])), (b_deed, .inl (k_bi, 16, .inl f_deed)), (b_value, .inl (k_bi, 16, .inl f_value)), (b_tests, .inl (k_bi, 16, .inl w_tests_58)), (b_thing, .inl (k_bi, 48, .inl w_thing_59)), (b_sign, .inl (k_bi, 48, .inl w_sign_60)), (b_number, .inl (k_bi, 48, .inl w_number_61))]) [2, 3, 4, 5, 0, 1, 6, 7, 8, 9] (by decide) rfl
            have hK9 := hK.sub (tys' := []) [] rfl
            exact W.zret (ty := .boolean) (v := 0) hx hb hr rfl (fun t ht hW => ⟨⟨0, (), rfl, (Or.inr (⟨rfl, (lg_X6_readStatement_19 n_ta n_to n_tl n_bk yq yk h_2 h_42 h_46 h_51 h_55)⟩)), ⟨w_pr_56, w_nu_57, n_bk, f_deed, f_value, w_tests_58, w_thing_59, w_sign_60, w_number_61, e_62, (lg_X6_readStatement_18 n_ta n_to n_tl n_bk yq yk h_2 h_42 h_46 h_51 h_55), by rw [ht]; exact hP9, va_K.moved hW.alike hK9, hD9⟩⟩, hS.F ht⟩) hS.2.2 dX6_readStatement_68
        · refine lv_if_eq (tgt := 67) hx hb dX6_readStatement_56 (by decide) ?_ (fun c_91 => absurd (by decide) c_91)
          intro _
          refine lv_iconst (v := 0) hx hb dX6_readStatement_67 (by decide) ?_
          refine W.widen (k := 0) (n := 0) (Nat.le_of_ble_eq_true rfl) (Nat.le_of_ble_eq_true rfl) ?_
          have hP9 := hP.sub (ws' := [(h0, .inr (6, [.ref d_tape, .int w_pr_52, .int n_nu])), (d_tape, .inr (9, [.ref p_bytes, .ref p_ts, .ref p_tc, .int n_ta, .int n_to, .int n_tl])), (p_tc, .inl (k_tc, 600, .inl f_tc)), (b0, .inr (5, [.ref b_deed, .ref b_value, .ref b_tests, .ref b_thing, .ref b_sign, .ref b_number, .int n_bk])), (b_deed, .inl (k_bi, 16, .inl f_deed)), (b_value, .inl (k_bi, 16, .inl f_value)), (b_tests, .inl (k_bi, 16, .inl f_tests)), (b_thing, .inl (k_bi, 48, .inl f_thing)), (b_sign, .inl (k_bi, 48, .inl f_sign)), (b_number, .inl (k_bi, 48, .inl f_number))]) [7, 8, 9, 0, 1, 2, 3, 4, 5, 6] rfl
          have hD9 := hD.sub (ws' := [(h0, .inr (6, [.ref d_tape, .int w_pr_52, .int n_nu])), (d_tape, .inr (9, [.ref p_bytes, .ref p_ts, .ref p_tc, .int n_ta, .int n_to, .int n_tl])), (p_tc, .inl (k_tc, 600, .inl f_tc)), (b0, .inr (5, [.ref b_deed, .ref b_value, .ref b_tests, .ref b_thing, .ref b_sign, .ref b_number, .int n_bk])), (b_deed, .inl (k_bi, 16, .inl f_deed)), (b_value, .inl (k_bi, 16, .inl f_value)), (b_tests, .inl (k_bi, 16, .inl f_tests)), (b_thing, .inl (k_bi, 48, .inl f_thing)), (b_sign, .inl (k_bi, 48, .inl f_sign)), (b_number, .inl (k_bi, 48, .inl f_number))]) [7, 8, 9, 0, 1, 2, 3, 4, 5, 6] (by decide) rfl
          have hK9 := hK.sub (tys' := []) [] rfl
          exact W.zret (ty := .boolean) (v := 0) hx hb hr rfl (fun t ht hW => ⟨⟨0, (), rfl, (Or.inr (⟨rfl, (lg_X6_readStatement_21 n_ta n_to n_tl n_bk yq yk h_2 h_42 h_46 h_51)⟩)), ⟨w_pr_52, n_nu, n_bk, f_deed, f_value, f_tests, f_thing, f_sign, f_number, yt, (lg_X6_readStatement_20 n_ta n_to n_tl n_bk yq yk h_2 h_42 h_46 h_51), by rw [ht]; exact hP9, va_K.moved hW.alike hK9, hD9⟩⟩, hS.F ht⟩) hS.2.2 dX6_readStatement_68
      · refine lv_if_eq (tgt := 44) hx hb dX6_readStatement_37 (by decide) ?_ (fun c_92 => absurd (by decide) c_92)
        intro _
        refine lv_iconst (v := 0) hx hb dX6_readStatement_44 (by decide) ?_
        refine lv_istore_n (lv' := [(3, .int 0), (2, .int 0), (0, .ref h0), (1, .ref b0)]) hx hb dX6_readStatement_45 rfl hl (by decide) rfl ?_
        clear hl; intro ls hl
        refine lv_iload_n hx hb dX6_readStatement_46 rfl (lv_at hl 0 rfl) ?_
        refine lv_if_eq (tgt := 67) hx hb dX6_readStatement_47 (by decide) ?_ (fun c_93 => absurd (by decide) c_93)
        intro _
        refine lv_iconst (v := 0) hx hb dX6_readStatement_67 (by decide) ?_
        refine W.widen (k := 0) (n := 0) (Nat.le_of_ble_eq_true rfl) (Nat.le_of_ble_eq_true rfl) ?_
        have hP9 := hP.sub (ws' := [(h0, .inr (6, [.ref d_tape, .int w_pr_47, .int n_nu])), (d_tape, .inr (9, [.ref p_bytes, .ref p_ts, .ref p_tc, .int n_ta, .int n_to, .int n_tl])), (p_tc, .inl (k_tc, 600, .inl f_tc)), (b0, .inr (5, [.ref b_deed, .ref b_value, .ref b_tests, .ref b_thing, .ref b_sign, .ref b_number, .int n_bk])), (b_deed, .inl (k_bi, 16, .inl f_deed)), (b_value, .inl (k_bi, 16, .inl f_value)), (b_tests, .inl (k_bi, 16, .inl f_tests)), (b_thing, .inl (k_bi, 48, .inl f_thing)), (b_sign, .inl (k_bi, 48, .inl f_sign)), (b_number, .inl (k_bi, 48, .inl f_number))]) [7, 8, 9, 0, 1, 2, 3, 4, 5, 6] rfl
        have hD9 := hD.sub (ws' := [(h0, .inr (6, [.ref d_tape, .int w_pr_47, .int n_nu])), (d_tape, .inr (9, [.ref p_bytes, .ref p_ts, .ref p_tc, .int n_ta, .int n_to, .int n_tl])), (p_tc, .inl (k_tc, 600, .inl f_tc)), (b0, .inr (5, [.ref b_deed, .ref b_value, .ref b_tests, .ref b_thing, .ref b_sign, .ref b_number, .int n_bk])), (b_deed, .inl (k_bi, 16, .inl f_deed)), (b_value, .inl (k_bi, 16, .inl f_value)), (b_tests, .inl (k_bi, 16, .inl f_tests)), (b_thing, .inl (k_bi, 48, .inl f_thing)), (b_sign, .inl (k_bi, 48, .inl f_sign)), (b_number, .inl (k_bi, 48, .inl f_number))]) [7, 8, 9, 0, 1, 2, 3, 4, 5, 6] (by decide) rfl
        have hK9 := hK.sub (tys' := []) [] rfl
        exact W.zret (ty := .boolean) (v := 0) hx hb hr rfl (fun t ht hW => ⟨⟨0, (), rfl, (Or.inr (⟨rfl, (lg_X6_readStatement_23 n_ta n_to n_tl n_bk yq yk h_2 h_42 h_46)⟩)), ⟨w_pr_47, n_nu, n_bk, f_deed, f_value, f_tests, f_thing, f_sign, f_number, yt, (lg_X6_readStatement_22 n_ta n_to n_tl n_bk yq yk h_2 h_42 h_46), by rw [ht]; exact hP9, va_K.moved hW.alike hK9, hD9⟩⟩, hS.F ht⟩) hS.2.2 dX6_readStatement_68
    · refine lv_if_eq (tgt := 44) hx hb dX6_readStatement_28 (by decide) ?_ (fun c_94 => absurd (by decide) c_94)
      intro _
      refine lv_iconst (v := 0) hx hb dX6_readStatement_44 (by decide) ?_
      refine lv_istore_n (lv' := [(3, .int 0), (2, .int 0), (0, .ref h0), (1, .ref b0)]) hx hb dX6_readStatement_45 rfl hl (by decide) rfl ?_
      clear hl; intro ls hl
      refine lv_iload_n hx hb dX6_readStatement_46 rfl (lv_at hl 0 rfl) ?_
      refine lv_if_eq (tgt := 67) hx hb dX6_readStatement_47 (by decide) ?_ (fun c_95 => absurd (by decide) c_95)
      intro _
      refine lv_iconst (v := 0) hx hb dX6_readStatement_67 (by decide) ?_
      refine W.widen (k := 0) (n := 0) (Nat.le_of_ble_eq_true rfl) (Nat.le_of_ble_eq_true rfl) ?_
      have hP9 := hP.sub (ws' := [(h0, .inr (6, [.ref d_tape, .int w_pr_43, .int n_nu])), (d_tape, .inr (9, [.ref p_bytes, .ref p_ts, .ref p_tc, .int n_ta, .int n_to, .int n_tl])), (p_tc, .inl (k_tc, 600, .inl f_tc)), (b0, .inr (5, [.ref b_deed, .ref b_value, .ref b_tests, .ref b_thing, .ref b_sign, .ref b_number, .int n_bk])), (b_deed, .inl (k_bi, 16, .inl f_deed)), (b_value, .inl (k_bi, 16, .inl f_value)), (b_tests, .inl (k_bi, 16, .inl f_tests)), (b_thing, .inl (k_bi, 48, .inl f_thing)), (b_sign, .inl (k_bi, 48, .inl f_sign)), (b_number, .inl (k_bi, 48, .inl f_number))]) [7, 8, 9, 0, 1, 2, 3, 4, 5, 6] rfl
      have hD9 := hD.sub (ws' := [(h0, .inr (6, [.ref d_tape, .int w_pr_43, .int n_nu])), (d_tape, .inr (9, [.ref p_bytes, .ref p_ts, .ref p_tc, .int n_ta, .int n_to, .int n_tl])), (p_tc, .inl (k_tc, 600, .inl f_tc)), (b0, .inr (5, [.ref b_deed, .ref b_value, .ref b_tests, .ref b_thing, .ref b_sign, .ref b_number, .int n_bk])), (b_deed, .inl (k_bi, 16, .inl f_deed)), (b_value, .inl (k_bi, 16, .inl f_value)), (b_tests, .inl (k_bi, 16, .inl f_tests)), (b_thing, .inl (k_bi, 48, .inl f_thing)), (b_sign, .inl (k_bi, 48, .inl f_sign)), (b_number, .inl (k_bi, 48, .inl f_number))]) [7, 8, 9, 0, 1, 2, 3, 4, 5, 6] (by decide) rfl
      have hK9 := hK.sub (tys' := []) [] rfl
      exact W.zret (ty := .boolean) (v := 0) hx hb hr rfl (fun t ht hW => ⟨⟨0, (), rfl, (Or.inr (⟨rfl, (lg_X6_readStatement_25 n_ta n_to n_tl n_bk yq yk h_2 h_42)⟩)), ⟨w_pr_43, n_nu, n_bk, f_deed, f_value, f_tests, f_thing, f_sign, f_number, yt, (lg_X6_readStatement_24 n_ta n_to n_tl n_bk yq yk h_2 h_42), by rw [ht]; exact hP9, va_K.moved hW.alike hK9, hD9⟩⟩, hS.F ht⟩) hS.2.2 dX6_readStatement_68

theorem lg_X6_place_0 (n_ta : Int32) (n_to : Int32) (n_tl : Int32) (yq : 0 ≤ n_ta.toInt ∧ n_ta.toInt ≤ 600 ∧ 0 ≤ n_to.toInt ∧ n_to.toInt ≤ 600 ∧ 0 ≤ n_tl.toInt ∧ n_tl.toInt ≤ 600) (h_2 : True) : True := by
  have := rg_rng n_ta; have := rg_rng n_to; have := rg_rng n_tl; trivial
set_option maxHeartbeats 4000000 in
set_option maxRecDepth 100000 in
theorem kX6_place (l : Launch) (dC : Nat → ClassId) (dI : Nat → Nat → Nat) (sz : Nat) (h0 : Nat) (d_tape : Nat) (n_pr : Int32) (n_nu : Int32) (p_bytes : Nat) (p_ts : Nat) (p_tc : Nat) (n_ta : Int32) (n_to : Int32) (n_tl : Int32) (k_ts : ClassId) (f_ts : Nat → Int32) (yq : 0 ≤ n_ta.toInt ∧ n_ta.toInt ≤ 600 ∧ 0 ≤ n_to.toInt ∧ n_to.toInt ≤ 600 ∧ 0 ≤ n_tl.toInt ∧ n_tl.toInt ≤ 600) : Met l yX6_place (Cond.code yX6_place cX6_place 1 (some .int) :: bg) ({ frames := 2, cells := 0, slots := 0, locals := 42 }) (pcW dC dI [.ref h0] sz [(h0, .inr (6, [.ref d_tape, .int n_pr, .int n_nu])), (d_tape, .inr (9, [.ref p_bytes, .ref p_ts, .ref p_tc, .int n_ta, .int n_to, .int n_tl])), (p_ts, .inl (k_ts, 600, .inl f_ts))] [(k_ts, .int)]) (va_Qi (fun (r : Int32) (u : Unit) => True) (fun (u : Unit) (t : State) => va_P (dC, dI) vwCl [(h0, .inr (6, [.ref d_tape, .int n_pr, .int n_nu])), (d_tape, .inr (9, [.ref p_bytes, .ref p_ts, .ref p_tc, .int n_ta, .int n_to, .int n_tl])), (p_ts, .inl (k_ts, 600, .inl f_ts))] t.heap ∧ va_K (dC, dI) vwCl [] t ∧ va_D (va_A [(h0, .inr (6, [.ref d_tape, .int n_pr, .int n_nu])), (d_tape, .inr (9, [.ref p_bytes, .ref p_ts, .ref p_tc, .int n_ta, .int n_to, .int n_tl])), (p_ts, .inl (k_ts, 600, .inl f_ts))] sz) [(h0, .inr (6, [.ref d_tape, .int n_pr, .int n_nu])), (d_tape, .inr (9, [.ref p_bytes, .ref p_ts, .ref p_tc, .int n_ta, .int n_to, .int n_tl])), (p_ts, .inl (k_ts, 600, .inl f_ts))]) (va_A [(h0, .inr (6, [.ref d_tape, .int n_pr, .int n_nu])), (d_tape, .inr (9, [.ref p_bytes, .ref p_ts, .ref p_tc, .int n_ta, .int n_to, .int n_tl])), (p_ts, .inl (k_ts, 600, .inl f_ts))] sz)) 0 0 (va_A [(h0, .inr (6, [.ref d_tape, .int n_pr, .int n_nu])), (d_tape, .inr (9, [.ref p_bytes, .ref p_ts, .ref p_tc, .int n_ta, .int n_to, .int n_tl])), (p_ts, .inl (k_ts, 600, .inl f_ts))] sz) := by
  refine Met.ofW (cc := cX6_place) (maxL := 1) (ret := (some .int)) pnX6 rfl ?_
  intro p e s m args below meth c s₁ B hml hv
  obtain ⟨rfl, hsz, hP, hK, hD0, hN⟩ := hv
  have hx := B.exec
  have hb := B.bytes
  have hr := B.returns
  have htb : ∀ w ∈ bg, w.before [.ref h0].toArray s = true := fun w h => atoms_spec (ws := Cond.code yX6_place cX6_place 1 (some .int) :: bg) B.pre w (List.mem_cons_of_mem _ h)
  have hown : s.vm.findClass RX6 = some m.cls := findClass_of_methodNamed B.named
  have hlocks := B.notSynchronized
  subst hsz
  have hD := hD0.self (sz := s.heap.size)
  generalize hAe : va_A [(h0, .inr (6, [.ref d_tape, .int n_pr, .int n_nu])), (d_tape, .inr (9, [.ref p_bytes, .ref p_ts, .ref p_tc, .int n_ta, .int n_to, .int n_tl])), (p_ts, .inl (k_ts, 600, .inl f_ts))] s.heap.size = A at hD ⊢
  have hA : ∀ q : Nat, s.heap.size ≤ q → A q := fun q h => by rw [← hAe]; exact Or.inr h
  have hS : va_S A s.heap s.heap [] := va_S.rf
  have hl := lv_entry ([.ref h0]) (n := 1) (Nat.le_of_ble_eq_true rfl)
  rw [lg_entry_eq]
  generalize (lg_sl ([.ref h0]) ++ List.replicate (1 - (lg_sl ([.ref h0])).length) Slot.unset).toArray = ls at hl ⊢
  change lv_has ls 1 [(0, .ref h0)] at hl
  clear hD0 hAe
  refine go0 (wsP := fun H => va_P (dC, dI) vwCl [(h0, .inr (6, [.ref d_tape, .int n_pr, .int n_nu])), (d_tape, .inr (9, [.ref p_bytes, .ref p_ts, .ref p_tc, .int n_ta, .int n_to, .int n_tl])), (p_ts, .inl (k_ts, 600, .inl f_ts))] H) hP hS ?_
  clear hP hS; intro H locs hP hS
  change va_P (dC, dI) vwCl [(h0, .inr (6, [.ref d_tape, .int n_pr, .int n_nu])), (d_tape, .inr (9, [.ref p_bytes, .ref p_ts, .ref p_tc, .int n_ta, .int n_to, .int n_tl])), (p_ts, .inl (k_ts, 600, .inl f_ts))] H at hP
  refine lv_aload_n hx hb dX6_place_0 rfl (lv_at hl 0 rfl) ?_
  refine va_get (D := (dC, dI)) (ci := 6) (v := .ref d_tape) (C := RX6) (T := TX6) (N := 3) hx hb htb iX6 hown hK hP 0 rfl rfl 0 (Nat.le_of_ble_eq_true rfl) (htb _ m_263) (fun _ h9 => h9) rfl dX6_place_1 ?_
  refine lv_aload_n hx hb dX6_place_4 rfl (lv_at hl 0 rfl) ?_
  refine va_get (D := (dC, dI)) (ci := 6) (v := .int n_pr) (C := RX6) (T := TX6) (N := 3) hx hb htb iX6 hown hK hP 0 rfl rfl 1 (Nat.le_of_ble_eq_true rfl) (htb _ m_264) (fun _ h9 => h9) rfl dX6_place_5 ?_
  have hPc := hP.sub (ws' := [(d_tape, .inr (9, [.ref p_bytes, .ref p_ts, .ref p_tc, .int n_ta, .int n_to, .int n_tl])), (p_ts, .inl (k_ts, 600, .inl f_ts))]) [1, 2] rfl
  have hDc := hD.sub (ws' := [(d_tape, .inr (9, [.ref p_bytes, .ref p_ts, .ref p_tc, .int n_ta, .int n_to, .int n_tl])), (p_ts, .inl (k_ts, 600, .inl f_ts))]) [1, 2] (by decide) rfl
  have hKc := hK.sub (tys' := [(k_ts, .int)]) [0] rfl
  have hFc := va_free (wc := [(d_tape, .inr (9, [.ref p_bytes, .ref p_ts, .ref p_tc, .int n_ta, .int n_to, .int n_tl])), (p_ts, .inl (k_ts, 600, .inl f_ts))]) hD hS hA [1, 2] rfl
  refine va_calli (va_runV (C := RX9) (As := [.int n_pr]) (rest := []) ⟨hx, hb, hml, hown, htb⟩ (kX9_placeOf l dC dI H.size d_tape p_bytes p_ts p_tc n_ta n_to n_tl k_ts f_ts n_pr yq) ⟨callB_of 1 htb (gd_c m_967) rfl rfl rfl (htb _ m_10) (htb _ m_964) hdX9_placeOf ⟨(Nat.le_of_ble_eq_true rfl), (Nat.le_of_ble_eq_true rfl)⟩, htb _ m_965, htb _ m_966⟩ ⟨pcW_blind, va_recv hKc hPc (ci := 9) (q0 := 0) rfl rfl, pcW_at hPc hKc hDc hN⟩ rfl rfl hl.1 rfl (lv_room (Nat.le_of_ble_eq_true rfl)) dX6_place_8 ⟨(Nat.le_of_ble_eq_true rfl), (Nat.le_of_ble_eq_true rfl)⟩) hS (fun q _ h => hFc q h) hFc (fun r_1 u t H1 locs1 ht hvm h_2 hB hz1 hk1 hS1 => ?_)
  obtain ⟨hP1, hK1, hD1⟩ := hB
  rw [ht] at hP1
  obtain ⟨hPn, hDn⟩ := va_join (wr := [(h0, .inr (6, [.ref d_tape, .int n_pr, .int n_nu]))]) (w1 := [(d_tape, .inr (9, [.ref p_bytes, .ref p_ts, .ref p_tc, .int n_ta, .int n_to, .int n_tl])), (p_ts, .inl (k_ts, 600, .inl f_ts))]) hP hD [1, 2] [0] rfl rfl (by decide) (by decide) hk1 hFc hP1 hD1
  clear hP1 hD1 hK1
  clear hP hD hS hPc hDc hKc hFc hk1 hz1 ht hvm
  clear t
  revert hS1 hPn hDn; generalize H1 = H; generalize locs1 = locs; intro hS hP hD
  change va_P (dC, dI) vwCl [(h0, .inr (6, [.ref d_tape, .int n_pr, .int n_nu])), (d_tape, .inr (9, [.ref p_bytes, .ref p_ts, .ref p_tc, .int n_ta, .int n_to, .int n_tl])), (p_ts, .inl (k_ts, 600, .inl f_ts))] H at hP
  change va_D A [(h0, .inr (6, [.ref d_tape, .int n_pr, .int n_nu])), (d_tape, .inr (9, [.ref p_bytes, .ref p_ts, .ref p_tc, .int n_ta, .int n_to, .int n_tl])), (p_ts, .inl (k_ts, 600, .inl f_ts))] at hD
  refine W.widen (k := 0) (n := 0) (Nat.le_of_ble_eq_true rfl) (Nat.le_of_ble_eq_true rfl) ?_
  have hP9 := hP.sub (ws' := [(h0, .inr (6, [.ref d_tape, .int n_pr, .int n_nu])), (d_tape, .inr (9, [.ref p_bytes, .ref p_ts, .ref p_tc, .int n_ta, .int n_to, .int n_tl])), (p_ts, .inl (k_ts, 600, .inl f_ts))]) [0, 1, 2] rfl
  have hD9 := hD.sub (ws' := [(h0, .inr (6, [.ref d_tape, .int n_pr, .int n_nu])), (d_tape, .inr (9, [.ref p_bytes, .ref p_ts, .ref p_tc, .int n_ta, .int n_to, .int n_tl])), (p_ts, .inl (k_ts, 600, .inl f_ts))]) [0, 1, 2] (by decide) rfl
  have hK9 := hK.sub (tys' := []) [] rfl
  exact W.iret (v := r_1) hx hb hr (fun t ht hW => ⟨⟨r_1, (), rfl, (lg_X6_place_0 n_ta n_to n_tl yq h_2), ⟨by rw [ht]; exact hP9, va_K.moved hW.alike hK9, hD9⟩⟩, hS.F ht⟩) hS.2.2 dX6_place_11
