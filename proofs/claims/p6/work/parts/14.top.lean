theorem lg_X11_node_0 (n_tb : Int32) (v1 : Int32) (v2 : Int32) (v3 : Int32) (v4 : Int32) (w_tb_16 : Int32) (r_14 : Int32) (yb : 1 ≤ n_tb.toInt ∧ n_tb.toInt ≤ 40) (h_2 : 0 ≤ v1.toInt ∧ v1.toInt < n_tb.toInt) (h_5 : (1 : Int) ≤ v2.toInt ∧ v2.toInt ≤ (100 : Int)) (h_8 : (0 : Int) ≤ v3.toInt ∧ v3.toInt ≤ (500 : Int)) (h_11 : 0 ≤ v4.toInt ∧ v4.toInt ≤ 9) (e_24 : (n_tb.toInt < 40 ∧ w_tb_16.toInt = n_tb.toInt + 1) ∨ (n_tb.toInt = 40 ∧ w_tb_16.toInt = n_tb.toInt)) (h_15 : (n_tb.toInt < 40 ∧ r_14.toInt = n_tb.toInt) ∨ (n_tb.toInt = 40 ∧ r_14.toInt = (-1))) : 1 ≤ w_tb_16.toInt ∧ w_tb_16.toInt ≤ 40 := by
  have := rg_rng n_tb; have := rg_rng v1; have := rg_rng v2; have := rg_rng v3; have := rg_rng v4; have := rg_rng w_tb_16; have := rg_rng r_14; omega
theorem lg_X11_node_1 (n_tb : Int32) (v1 : Int32) (v2 : Int32) (v3 : Int32) (v4 : Int32) (w_tb_16 : Int32) (r_14 : Int32) (yb : 1 ≤ n_tb.toInt ∧ n_tb.toInt ≤ 40) (h_2 : 0 ≤ v1.toInt ∧ v1.toInt < n_tb.toInt) (h_5 : (1 : Int) ≤ v2.toInt ∧ v2.toInt ≤ (100 : Int)) (h_8 : (0 : Int) ≤ v3.toInt ∧ v3.toInt ≤ (500 : Int)) (h_11 : 0 ≤ v4.toInt ∧ v4.toInt ≤ 9) (e_24 : (n_tb.toInt < 40 ∧ w_tb_16.toInt = n_tb.toInt + 1) ∨ (n_tb.toInt = 40 ∧ w_tb_16.toInt = n_tb.toInt)) (h_15 : (n_tb.toInt < 40 ∧ r_14.toInt = n_tb.toInt) ∨ (n_tb.toInt = 40 ∧ r_14.toInt = (-1))) : True := by
  have := rg_rng n_tb; have := rg_rng v1; have := rg_rng v2; have := rg_rng v3; have := rg_rng v4; have := rg_rng w_tb_16; have := rg_rng r_14; first | trivial | omega
theorem lg_X11_node_2 (n_tb : Int32) (v1 : Int32) (v2 : Int32) (v3 : Int32) (v4 : Int32) (yb : 1 ≤ n_tb.toInt ∧ n_tb.toInt ≤ 40) (h_2 : 0 ≤ v1.toInt ∧ v1.toInt < n_tb.toInt) (h_5 : (1 : Int) ≤ v2.toInt ∧ v2.toInt ≤ (100 : Int)) (h_8 : (0 : Int) ≤ v3.toInt ∧ v3.toInt ≤ (500 : Int)) (h_11 : ¬ (0 ≤ v4.toInt ∧ v4.toInt ≤ 9)) : 1 ≤ n_tb.toInt ∧ n_tb.toInt ≤ 40 := by
  have := rg_rng n_tb; have := rg_rng v1; have := rg_rng v2; have := rg_rng v3; have := rg_rng v4; omega
theorem lg_X11_node_3 (n_tb : Int32) (v1 : Int32) (v2 : Int32) (v3 : Int32) (v4 : Int32) (yb : 1 ≤ n_tb.toInt ∧ n_tb.toInt ≤ 40) (h_2 : 0 ≤ v1.toInt ∧ v1.toInt < n_tb.toInt) (h_5 : (1 : Int) ≤ v2.toInt ∧ v2.toInt ≤ (100 : Int)) (h_8 : (0 : Int) ≤ v3.toInt ∧ v3.toInt ≤ (500 : Int)) (h_11 : ¬ (0 ≤ v4.toInt ∧ v4.toInt ≤ 9)) : True := by
  have := rg_rng n_tb; have := rg_rng v1; have := rg_rng v2; have := rg_rng v3; have := rg_rng v4; first | trivial | omega
theorem lg_X11_node_4 (n_tb : Int32) (v1 : Int32) (v2 : Int32) (v3 : Int32) (yb : 1 ≤ n_tb.toInt ∧ n_tb.toInt ≤ 40) (h_2 : 0 ≤ v1.toInt ∧ v1.toInt < n_tb.toInt) (h_5 : (1 : Int) ≤ v2.toInt ∧ v2.toInt ≤ (100 : Int)) (h_8 : ¬ ((0 : Int) ≤ v3.toInt ∧ v3.toInt ≤ (500 : Int))) : 1 ≤ n_tb.toInt ∧ n_tb.toInt ≤ 40 := by
  have := rg_rng n_tb; have := rg_rng v1; have := rg_rng v2; have := rg_rng v3; omega
theorem lg_X11_node_5 (n_tb : Int32) (v1 : Int32) (v2 : Int32) (v3 : Int32) (yb : 1 ≤ n_tb.toInt ∧ n_tb.toInt ≤ 40) (h_2 : 0 ≤ v1.toInt ∧ v1.toInt < n_tb.toInt) (h_5 : (1 : Int) ≤ v2.toInt ∧ v2.toInt ≤ (100 : Int)) (h_8 : ¬ ((0 : Int) ≤ v3.toInt ∧ v3.toInt ≤ (500 : Int))) : True := by
  have := rg_rng n_tb; have := rg_rng v1; have := rg_rng v2; have := rg_rng v3; first | trivial | omega
theorem lg_X11_node_6 (n_tb : Int32) (v1 : Int32) (v2 : Int32) (yb : 1 ≤ n_tb.toInt ∧ n_tb.toInt ≤ 40) (h_2 : 0 ≤ v1.toInt ∧ v1.toInt < n_tb.toInt) (h_5 : ¬ ((1 : Int) ≤ v2.toInt ∧ v2.toInt ≤ (100 : Int))) : 1 ≤ n_tb.toInt ∧ n_tb.toInt ≤ 40 := by
  have := rg_rng n_tb; have := rg_rng v1; have := rg_rng v2; omega
theorem lg_X11_node_7 (n_tb : Int32) (v1 : Int32) (v2 : Int32) (yb : 1 ≤ n_tb.toInt ∧ n_tb.toInt ≤ 40) (h_2 : 0 ≤ v1.toInt ∧ v1.toInt < n_tb.toInt) (h_5 : ¬ ((1 : Int) ≤ v2.toInt ∧ v2.toInt ≤ (100 : Int))) : True := by
  have := rg_rng n_tb; have := rg_rng v1; have := rg_rng v2; first | trivial | omega
theorem lg_X11_node_8 (n_tb : Int32) (v1 : Int32) (yb : 1 ≤ n_tb.toInt ∧ n_tb.toInt ≤ 40) (h_2 : ¬ (0 ≤ v1.toInt ∧ v1.toInt < n_tb.toInt)) : 1 ≤ n_tb.toInt ∧ n_tb.toInt ≤ 40 := by
  have := rg_rng n_tb; have := rg_rng v1; omega
theorem lg_X11_node_9 (n_tb : Int32) (v1 : Int32) (yb : 1 ≤ n_tb.toInt ∧ n_tb.toInt ≤ 40) (h_2 : ¬ (0 ≤ v1.toInt ∧ v1.toInt < n_tb.toInt)) : True := by
  have := rg_rng n_tb; have := rg_rng v1; first | trivial | omega
set_option maxHeartbeats 4000000 in
set_option maxRecDepth 100000 in
theorem kX11_node (l : Launch) (dC : Nat → ClassId) (dI : Nat → Nat → Nat) (sz : Nat) (h0 : Nat) (z_tubes : Nat) (z_grove : Nat) (z_season : Nat) (z_past : Nat) (z_tank : Nat) (z_pan : Nat) (z_cellar : Nat) (z_coop : Nat) (z_tape : Nat) (z_reader : Nat) (z_facts : Nat) (z_book : Nat) (z_spare : Nat) (n_fp : Int32) (t_to : Nat) (t_height : Nat) (t_member : Nat) (t_lengthHome : Nat) (t_runs : Nat) (t_leak : Nat) (t_vacuum : Nat) (t_reading : Nat) (n_tb : Int32) (k_to : ClassId) (k_height : ClassId) (k_member : ClassId) (k_lengthHome : ClassId) (k_runs : ClassId) (k_vacuum : ClassId) (k_reading : ClassId) (f_to : Nat → Int32) (f_height : Nat → Int32) (f_member : Nat → Int32) (f_lengthHome : Nat → Int32) (f_runs : Nat → Int32) (f_vacuum : Nat → Int32) (f_reading : Nat → Int32) (v1 : Int32) (v2 : Int32) (v3 : Int32) (v4 : Int32) (yb : 1 ≤ n_tb.toInt ∧ n_tb.toInt ≤ 40) (yvac : Rg f_vacuum 40 0 100) : Met l yX11_node (Cond.code yX11_node cX11_node 6 (some .int) :: bg) ({ frames := 2, cells := 0, slots := 0, locals := 46 }) (pcW dC dI [.ref h0, .int v1, .int v2, .int v3, .int v4] sz [(h0, .inr (11, [.ref z_tubes, .ref z_grove, .ref z_season, .ref z_past, .ref z_tank, .ref z_pan, .ref z_cellar, .ref z_coop, .ref z_tape, .ref z_reader, .ref z_facts, .ref z_book, .ref z_spare, .int n_fp])), (z_tubes, .inr (10, [.ref t_to, .ref t_height, .ref t_member, .ref t_lengthHome, .ref t_runs, .ref t_leak, .ref t_vacuum, .ref t_reading, .int n_tb])), (t_to, .inl (k_to, 40, .inl f_to)), (t_height, .inl (k_height, 40, .inl f_height)), (t_member, .inl (k_member, 40, .inl f_member)), (t_lengthHome, .inl (k_lengthHome, 40, .inl f_lengthHome)), (t_runs, .inl (k_runs, 40, .inl f_runs)), (t_vacuum, .inl (k_vacuum, 40, .inl f_vacuum)), (t_reading, .inl (k_reading, 40, .inl f_reading))] [(k_to, .int), (k_height, .int), (k_member, .int), (k_lengthHome, .int), (k_runs, .boolean), (k_vacuum, .int), (k_reading, .int)]) (va_Qi (fun (r : Int32) (u : Unit) => True) (fun (u : Unit) (t : State) => ∃ (w_tb : Int32) (w_to : Nat → Int32) (w_height : Nat → Int32) (w_member : Nat → Int32) (w_lengthHome : Nat → Int32) (w_runs : Nat → Int32) (w_vacuum : Nat → Int32) (w_reading : Nat → Int32), (1 ≤ w_tb.toInt ∧ w_tb.toInt ≤ 40) ∧ Rg w_vacuum 40 0 100 ∧ va_P (dC, dI) vwCl [(h0, .inr (11, [.ref z_tubes, .ref z_grove, .ref z_season, .ref z_past, .ref z_tank, .ref z_pan, .ref z_cellar, .ref z_coop, .ref z_tape, .ref z_reader, .ref z_facts, .ref z_book, .ref z_spare, .int n_fp])), (z_tubes, .inr (10, [.ref t_to, .ref t_height, .ref t_member, .ref t_lengthHome, .ref t_runs, .ref t_leak, .ref t_vacuum, .ref t_reading, .int w_tb])), (t_to, .inl (k_to, 40, .inl w_to)), (t_height, .inl (k_height, 40, .inl w_height)), (t_member, .inl (k_member, 40, .inl w_member)), (t_lengthHome, .inl (k_lengthHome, 40, .inl w_lengthHome)), (t_runs, .inl (k_runs, 40, .inl w_runs)), (t_vacuum, .inl (k_vacuum, 40, .inl w_vacuum)), (t_reading, .inl (k_reading, 40, .inl w_reading))] t.heap ∧ va_K (dC, dI) vwCl [] t ∧ va_D (va_A [(h0, .inr (11, [.ref z_tubes, .ref z_grove, .ref z_season, .ref z_past, .ref z_tank, .ref z_pan, .ref z_cellar, .ref z_coop, .ref z_tape, .ref z_reader, .ref z_facts, .ref z_book, .ref z_spare, .int n_fp])), (z_tubes, .inr (10, [.ref t_to, .ref t_height, .ref t_member, .ref t_lengthHome, .ref t_runs, .ref t_leak, .ref t_vacuum, .ref t_reading, .int n_tb])), (t_to, .inl (k_to, 40, .inl f_to)), (t_height, .inl (k_height, 40, .inl f_height)), (t_member, .inl (k_member, 40, .inl f_member)), (t_lengthHome, .inl (k_lengthHome, 40, .inl f_lengthHome)), (t_runs, .inl (k_runs, 40, .inl f_runs)), (t_vacuum, .inl (k_vacuum, 40, .inl f_vacuum)), (t_reading, .inl (k_reading, 40, .inl f_reading))] sz) [(h0, .inr (11, [.ref z_tubes, .ref z_grove, .ref z_season, .ref z_past, .ref z_tank, .ref z_pan, .ref z_cellar, .ref z_coop, .ref z_tape, .ref z_reader, .ref z_facts, .ref z_book, .ref z_spare, .int n_fp])), (z_tubes, .inr (10, [.ref t_to, .ref t_height, .ref t_member, .ref t_lengthHome, .ref t_runs, .ref t_leak, .ref t_vacuum, .ref t_reading, .int w_tb])), (t_to, .inl (k_to, 40, .inl w_to)), (t_height, .inl (k_height, 40, .inl w_height)), (t_member, .inl (k_member, 40, .inl w_member)), (t_lengthHome, .inl (k_lengthHome, 40, .inl w_lengthHome)), (t_runs, .inl (k_runs, 40, .inl w_runs)), (t_vacuum, .inl (k_vacuum, 40, .inl w_vacuum)), (t_reading, .inl (k_reading, 40, .inl w_reading))]) (va_A [(h0, .inr (11, [.ref z_tubes, .ref z_grove, .ref z_season, .ref z_past, .ref z_tank, .ref z_pan, .ref z_cellar, .ref z_coop, .ref z_tape, .ref z_reader, .ref z_facts, .ref z_book, .ref z_spare, .int n_fp])), (z_tubes, .inr (10, [.ref t_to, .ref t_height, .ref t_member, .ref t_lengthHome, .ref t_runs, .ref t_leak, .ref t_vacuum, .ref t_reading, .int n_tb])), (t_to, .inl (k_to, 40, .inl f_to)), (t_height, .inl (k_height, 40, .inl f_height)), (t_member, .inl (k_member, 40, .inl f_member)), (t_lengthHome, .inl (k_lengthHome, 40, .inl f_lengthHome)), (t_runs, .inl (k_runs, 40, .inl f_runs)), (t_vacuum, .inl (k_vacuum, 40, .inl f_vacuum)), (t_reading, .inl (k_reading, 40, .inl f_reading))] sz)) 0 0 (va_A [(h0, .inr (11, [.ref z_tubes, .ref z_grove, .ref z_season, .ref z_past, .ref z_tank, .ref z_pan, .ref z_cellar, .ref z_coop, .ref z_tape, .ref z_reader, .ref z_facts, .ref z_book, .ref z_spare, .int n_fp])), (z_tubes, .inr (10, [.ref t_to, .ref t_height, .ref t_member, .ref t_lengthHome, .ref t_runs, .ref t_leak, .ref t_vacuum, .ref t_reading, .int n_tb])), (t_to, .inl (k_to, 40, .inl f_to)), (t_height, .inl (k_height, 40, .inl f_height)), (t_member, .inl (k_member, 40, .inl f_member)), (t_lengthHome, .inl (k_lengthHome, 40, .inl f_lengthHome)), (t_runs, .inl (k_runs, 40, .inl f_runs)), (t_vacuum, .inl (k_vacuum, 40, .inl f_vacuum)), (t_reading, .inl (k_reading, 40, .inl f_reading))] sz) := by
  refine Met.ofW (cc := cX11_node) (maxL := 6) (ret := (some .int)) pnX11 rfl ?_
  intro p e s m args below meth c s₁ B hml hv
  obtain ⟨rfl, hsz, hP, hK, hD0, hN⟩ := hv
  have hx := B.exec
  have hb := B.bytes
  have hr := B.returns
  have htb : ∀ w ∈ bg, w.before [.ref h0, .int v1, .int v2, .int v3, .int v4].toArray s = true := fun w h => atoms_spec (ws := Cond.code yX11_node cX11_node 6 (some .int) :: bg) B.pre w (List.mem_cons_of_mem _ h)
  have hown : s.vm.findClass RX11 = some m.cls := findClass_of_methodNamed B.named
  have hlocks := B.notSynchronized
  subst hsz
  have hD := hD0.self (sz := s.heap.size)
  generalize hAe : va_A [(h0, .inr (11, [.ref z_tubes, .ref z_grove, .ref z_season, .ref z_past, .ref z_tank, .ref z_pan, .ref z_cellar, .ref z_coop, .ref z_tape, .ref z_reader, .ref z_facts, .ref z_book, .ref z_spare, .int n_fp])), (z_tubes, .inr (10, [.ref t_to, .ref t_height, .ref t_member, .ref t_lengthHome, .ref t_runs, .ref t_leak, .ref t_vacuum, .ref t_reading, .int n_tb])), (t_to, .inl (k_to, 40, .inl f_to)), (t_height, .inl (k_height, 40, .inl f_height)), (t_member, .inl (k_member, 40, .inl f_member)), (t_lengthHome, .inl (k_lengthHome, 40, .inl f_lengthHome)), (t_runs, .inl (k_runs, 40, .inl f_runs)), (t_vacuum, .inl (k_vacuum, 40, .inl f_vacuum)), (t_reading, .inl (k_reading, 40, .inl f_reading))] s.heap.size = A at hD ⊢
  have hA : ∀ q : Nat, s.heap.size ≤ q → A q := fun q h => by rw [← hAe]; exact Or.inr h
  have hS : va_S A s.heap s.heap [] := va_S.rf
  have hl := lv_entry ([.ref h0, .int v1, .int v2, .int v3, .int v4]) (n := 6) (Nat.le_of_ble_eq_true rfl)
  rw [lg_entry_eq]
  generalize (lg_sl ([.ref h0, .int v1, .int v2, .int v3, .int v4]) ++ List.replicate (6 - (lg_sl ([.ref h0, .int v1, .int v2, .int v3, .int v4])).length) Slot.unset).toArray = ls at hl ⊢
  change lv_has ls 6 [(0, .ref h0), (1, .int v1), (2, .int v2), (3, .int v3), (4, .int v4)] at hl
  clear hD0 hAe
  refine go0 (wsP := fun H => va_P (dC, dI) vwCl [(h0, .inr (11, [.ref z_tubes, .ref z_grove, .ref z_season, .ref z_past, .ref z_tank, .ref z_pan, .ref z_cellar, .ref z_coop, .ref z_tape, .ref z_reader, .ref z_facts, .ref z_book, .ref z_spare, .int n_fp])), (z_tubes, .inr (10, [.ref t_to, .ref t_height, .ref t_member, .ref t_lengthHome, .ref t_runs, .ref t_leak, .ref t_vacuum, .ref t_reading, .int n_tb])), (t_to, .inl (k_to, 40, .inl f_to)), (t_height, .inl (k_height, 40, .inl f_height)), (t_member, .inl (k_member, 40, .inl f_member)), (t_lengthHome, .inl (k_lengthHome, 40, .inl f_lengthHome)), (t_runs, .inl (k_runs, 40, .inl f_runs)), (t_vacuum, .inl (k_vacuum, 40, .inl f_vacuum)), (t_reading, .inl (k_reading, 40, .inl f_reading))] H) hP hS ?_
  clear hP hS; intro H locs hP hS
  change va_P (dC, dI) vwCl [(h0, .inr (11, [.ref z_tubes, .ref z_grove, .ref z_season, .ref z_past, .ref z_tank, .ref z_pan, .ref z_cellar, .ref z_coop, .ref z_tape, .ref z_reader, .ref z_facts, .ref z_book, .ref z_spare, .int n_fp])), (z_tubes, .inr (10, [.ref t_to, .ref t_height, .ref t_member, .ref t_lengthHome, .ref t_runs, .ref t_leak, .ref t_vacuum, .ref t_reading, .int n_tb])), (t_to, .inl (k_to, 40, .inl f_to)), (t_height, .inl (k_height, 40, .inl f_height)), (t_member, .inl (k_member, 40, .inl f_member)), (t_lengthHome, .inl (k_lengthHome, 40, .inl f_lengthHome)), (t_runs, .inl (k_runs, 40, .inl f_runs)), (t_vacuum, .inl (k_vacuum, 40, .inl f_vacuum)), (t_reading, .inl (k_reading, 40, .inl f_reading))] H at hP
  refine lv_aload_n hx hb dX11_node_0 rfl (lv_at hl 0 rfl) ?_
  refine va_get (D := (dC, dI)) (ci := 11) (v := .ref z_tubes) (C := RX11) (T := TX11) (N := 14) hx hb htb iX11 hown hK hP 0 rfl rfl 0 (Nat.le_of_ble_eq_true rfl) (htb _ m_302) (fun _ h9 => h9) rfl dX11_node_1 ?_
  refine lv_iload_n hx hb dX11_node_4 rfl (lv_at hl 1 rfl) ?_
  have hPc := hP.sub (ws' := [(z_tubes, .inr (10, [.ref t_to, .ref t_height, .ref t_member, .ref t_lengthHome, .ref t_runs, .ref t_leak, .ref t_vacuum, .ref t_reading, .int n_tb]))]) [1] rfl
  have hDc := hD.sub (ws' := [(z_tubes, .inr (10, [.ref t_to, .ref t_height, .ref t_member, .ref t_lengthHome, .ref t_runs, .ref t_leak, .ref t_vacuum, .ref t_reading, .int n_tb]))]) [1] (by decide) rfl
  have hKc := hK.sub (tys' := []) [] rfl
  have hFc := va_free (wc := [(z_tubes, .inr (10, [.ref t_to, .ref t_height, .ref t_member, .ref t_lengthHome, .ref t_runs, .ref t_leak, .ref t_vacuum, .ref t_reading, .int n_tb]))]) hD hS hA [1] rfl
  refine va_calli (va_runV (C := RX10) (As := [.int v1]) (rest := []) ⟨hx, hb, hml, hown, htb⟩ (kX10_has l dC dI H.size z_tubes t_to t_height t_member t_lengthHome t_runs t_leak t_vacuum t_reading n_tb v1 ) ⟨callB_of 1 htb (gd_c m_352) rfl rfl rfl (htb _ m_2) (htb _ m_349) hdX10_has ⟨(Nat.le_of_ble_eq_true rfl), (Nat.le_of_ble_eq_true rfl)⟩, htb _ m_350, htb _ m_351⟩ ⟨pcW_blind, va_recv hKc hPc (ci := 10) (q0 := 0) rfl rfl, pcW_at hPc hKc hDc hN⟩ rfl rfl hl.1 rfl (lv_room (Nat.le_of_ble_eq_true rfl)) dX11_node_5 ⟨(Nat.le_of_ble_eq_true rfl), (Nat.le_of_ble_eq_true rfl)⟩) hS (fun q _ h => hFc q h) hFc (fun r_1 u t H1 locs1 ht hvm h_2 hB hz1 hk1 hS1 => ?_)
  obtain ⟨hP1, hK1, hD1⟩ := hB
  rw [ht] at hP1
  obtain ⟨hPn, hDn⟩ := va_join (wr := [(h0, .inr (11, [.ref z_tubes, .ref z_grove, .ref z_season, .ref z_past, .ref z_tank, .ref z_pan, .ref z_cellar, .ref z_coop, .ref z_tape, .ref z_reader, .ref z_facts, .ref z_book, .ref z_spare, .int n_fp])), (t_to, .inl (k_to, 40, .inl f_to)), (t_height, .inl (k_height, 40, .inl f_height)), (t_member, .inl (k_member, 40, .inl f_member)), (t_lengthHome, .inl (k_lengthHome, 40, .inl f_lengthHome)), (t_runs, .inl (k_runs, 40, .inl f_runs)), (t_vacuum, .inl (k_vacuum, 40, .inl f_vacuum)), (t_reading, .inl (k_reading, 40, .inl f_reading))]) (w1 := [(z_tubes, .inr (10, [.ref t_to, .ref t_height, .ref t_member, .ref t_lengthHome, .ref t_runs, .ref t_leak, .ref t_vacuum, .ref t_reading, .int n_tb]))]) hP hD [1] [0, 2, 3, 4, 5, 6, 7, 8] rfl rfl (by decide) (by decide) hk1 hFc hP1 hD1
  clear hP1 hD1 hK1
  clear hP hD hS hPc hDc hKc hFc hk1 hz1 ht hvm
  clear t
  revert hS1 hPn hDn; generalize H1 = H; generalize locs1 = locs; intro hS hP hD
  change va_P (dC, dI) vwCl [(h0, .inr (11, [.ref z_tubes, .ref z_grove, .ref z_season, .ref z_past, .ref z_tank, .ref z_pan, .ref z_cellar, .ref z_coop, .ref z_tape, .ref z_reader, .ref z_facts, .ref z_book, .ref z_spare, .int n_fp])), (t_to, .inl (k_to, 40, .inl f_to)), (t_height, .inl (k_height, 40, .inl f_height)), (t_member, .inl (k_member, 40, .inl f_member)), (t_lengthHome, .inl (k_lengthHome, 40, .inl f_lengthHome)), (t_runs, .inl (k_runs, 40, .inl f_runs)), (t_vacuum, .inl (k_vacuum, 40, .inl f_vacuum)), (t_reading, .inl (k_reading, 40, .inl f_reading)), (z_tubes, .inr (10, [.ref t_to, .ref t_height, .ref t_member, .ref t_lengthHome, .ref t_runs, .ref t_leak, .ref t_vacuum, .ref t_reading, .int n_tb]))] H at hP
  change va_D A [(h0, .inr (11, [.ref z_tubes, .ref z_grove, .ref z_season, .ref z_past, .ref z_tank, .ref z_pan, .ref z_cellar, .ref z_coop, .ref z_tape, .ref z_reader, .ref z_facts, .ref z_book, .ref z_spare, .int n_fp])), (t_to, .inl (k_to, 40, .inl f_to)), (t_height, .inl (k_height, 40, .inl f_height)), (t_member, .inl (k_member, 40, .inl f_member)), (t_lengthHome, .inl (k_lengthHome, 40, .inl f_lengthHome)), (t_runs, .inl (k_runs, 40, .inl f_runs)), (t_vacuum, .inl (k_vacuum, 40, .inl f_vacuum)), (t_reading, .inl (k_reading, 40, .inl f_reading)), (z_tubes, .inr (10, [.ref t_to, .ref t_height, .ref t_member, .ref t_lengthHome, .ref t_runs, .ref t_leak, .ref t_vacuum, .ref t_reading, .int n_tb]))] at hD
  rcases h_2 with ⟨rfl, h_2⟩ | ⟨rfl, h_2⟩
  · refine lv_if_eq (tgt := 44) hx hb dX11_node_8 (by decide) (fun c_3 => absurd c_3 (by decide)) ?_
    intro _
    refine lv_iload_n hx hb dX11_node_11 rfl (lv_at hl 2 rfl) ?_
    refine lv_iconst (v := 1) hx hb dX11_node_12 (by decide) ?_
    refine lv_bipush (v := 100) hx hb dX11_node_13 (by decide) ?_
    have hPc := hP.sub (ws' := []) [] rfl
    have hDc := hD.sub (ws' := []) [] (by decide) rfl
    have hKc := hK.sub (tys' := []) [] rfl
    have hFc := va_free (wc := []) hD hS hA [] rfl
    refine va_calli (va_runS (As := [.int v2, .int 1, .int 100]) (rest := []) ⟨hx, hb, hml, hown, htb⟩ (kX11_isWithin l dC dI H.size v2 1 100 ) ⟨callB_of 3 htb (gd_c m_355) rfl rfl rfl (htb _ m_1) (htb _ m_353) hdX11_isWithin ⟨(Nat.le_of_ble_eq_true rfl), (Nat.le_of_ble_eq_true rfl)⟩, htb _ m_354⟩ ⟨pcW_blind, pcW_at hPc hKc hDc hN⟩ rfl rfl hl.1 rfl (lv_room (Nat.le_of_ble_eq_true rfl)) dX11_node_15 ⟨(Nat.le_of_ble_eq_true rfl), (Nat.le_of_ble_eq_true rfl)⟩) hS (fun q _ h => hFc q h) hFc (fun r_4 u t H1 locs1 ht hvm h_5 hB hz1 hk1 hS1 => ?_)
    obtain ⟨hP1, hK1, hD1⟩ := hB
    rw [ht] at hP1
    obtain ⟨hPn, hDn⟩ := va_join (wr := [(h0, .inr (11, [.ref z_tubes, .ref z_grove, .ref z_season, .ref z_past, .ref z_tank, .ref z_pan, .ref z_cellar, .ref z_coop, .ref z_tape, .ref z_reader, .ref z_facts, .ref z_book, .ref z_spare, .int n_fp])), (t_to, .inl (k_to, 40, .inl f_to)), (t_height, .inl (k_height, 40, .inl f_height)), (t_member, .inl (k_member, 40, .inl f_member)), (t_lengthHome, .inl (k_lengthHome, 40, .inl f_lengthHome)), (t_runs, .inl (k_runs, 40, .inl f_runs)), (t_vacuum, .inl (k_vacuum, 40, .inl f_vacuum)), (t_reading, .inl (k_reading, 40, .inl f_reading)), (z_tubes, .inr (10, [.ref t_to, .ref t_height, .ref t_member, .ref t_lengthHome, .ref t_runs, .ref t_leak, .ref t_vacuum, .ref t_reading, .int n_tb]))]) (w1 := []) hP hD [] [0, 1, 2, 3, 4, 5, 6, 7, 8] rfl rfl (by decide) (by decide) hk1 hFc hP1 hD1
    clear hP1 hD1 hK1
    clear hP hD hS hPc hDc hKc hFc hk1 hz1 ht hvm
    clear t
    revert hS1 hPn hDn; generalize H1 = H; generalize locs1 = locs; intro hS hP hD
    change va_P (dC, dI) vwCl [(h0, .inr (11, [.ref z_tubes, .ref z_grove, .ref z_season, .ref z_past, .ref z_tank, .ref z_pan, .ref z_cellar, .ref z_coop, .ref z_tape, .ref z_reader, .ref z_facts, .ref z_book, .ref z_spare, .int n_fp])), (t_to, .inl (k_to, 40, .inl f_to)), (t_height, .inl (k_height, 40, .inl f_height)), (t_member, .inl (k_member, 40, .inl f_member)), (t_lengthHome, .inl (k_lengthHome, 40, .inl f_lengthHome)), (t_runs, .inl (k_runs, 40, .inl f_runs)), (t_vacuum, .inl (k_vacuum, 40, .inl f_vacuum)), (t_reading, .inl (k_reading, 40, .inl f_reading)), (z_tubes, .inr (10, [.ref t_to, .ref t_height, .ref t_member, .ref t_lengthHome, .ref t_runs, .ref t_leak, .ref t_vacuum, .ref t_reading, .int n_tb]))] H at hP
    change va_D A [(h0, .inr (11, [.ref z_tubes, .ref z_grove, .ref z_season, .ref z_past, .ref z_tank, .ref z_pan, .ref z_cellar, .ref z_coop, .ref z_tape, .ref z_reader, .ref z_facts, .ref z_book, .ref z_spare, .int n_fp])), (t_to, .inl (k_to, 40, .inl f_to)), (t_height, .inl (k_height, 40, .inl f_height)), (t_member, .inl (k_member, 40, .inl f_member)), (t_lengthHome, .inl (k_lengthHome, 40, .inl f_lengthHome)), (t_runs, .inl (k_runs, 40, .inl f_runs)), (t_vacuum, .inl (k_vacuum, 40, .inl f_vacuum)), (t_reading, .inl (k_reading, 40, .inl f_reading)), (z_tubes, .inr (10, [.ref t_to, .ref t_height, .ref t_member, .ref t_lengthHome, .ref t_runs, .ref t_leak, .ref t_vacuum, .ref t_reading, .int n_tb]))] at hD
    rcases h_5 with ⟨rfl, h_5⟩ | ⟨rfl, h_5⟩
    · refine lv_if_eq (tgt := 44) hx hb dX11_node_18 (by decide) (fun c_6 => absurd c_6 (by decide)) ?_
      intro _
      refine lv_iload_n hx hb dX11_node_21 rfl (lv_at hl 3 rfl) ?_
      refine lv_iconst (v := 0) hx hb dX11_node_22 (by decide) ?_
      refine lv_sipush (v := 500) hx hb dX11_node_23 (by decide) ?_
      have hPc := hP.sub (ws' := []) [] rfl
      have hDc := hD.sub (ws' := []) [] (by decide) rfl
      have hKc := hK.sub (tys' := []) [] rfl
      have hFc := va_free (wc := []) hD hS hA [] rfl
      refine va_calli (va_runS (As := [.int v3, .int 0, .int 500]) (rest := []) ⟨hx, hb, hml, hown, htb⟩ (kX11_isWithin l dC dI H.size v3 0 500 ) ⟨callB_of 3 htb (gd_c m_355) rfl rfl rfl (htb _ m_1) (htb _ m_353) hdX11_isWithin ⟨(Nat.le_of_ble_eq_true rfl), (Nat.le_of_ble_eq_true rfl)⟩, htb _ m_354⟩ ⟨pcW_blind, pcW_at hPc hKc hDc hN⟩ rfl rfl hl.1 rfl (lv_room (Nat.le_of_ble_eq_true rfl)) dX11_node_26 ⟨(Nat.le_of_ble_eq_true rfl), (Nat.le_of_ble_eq_true rfl)⟩) hS (fun q _ h => hFc q h) hFc (fun r_7 u t H1 locs1 ht hvm h_8 hB hz1 hk1 hS1 => ?_)
      obtain ⟨hP1, hK1, hD1⟩ := hB
      rw [ht] at hP1
      obtain ⟨hPn, hDn⟩ := va_join (wr := [(h0, .inr (11, [.ref z_tubes, .ref z_grove, .ref z_season, .ref z_past, .ref z_tank, .ref z_pan, .ref z_cellar, .ref z_coop, .ref z_tape, .ref z_reader, .ref z_facts, .ref z_book, .ref z_spare, .int n_fp])), (t_to, .inl (k_to, 40, .inl f_to)), (t_height, .inl (k_height, 40, .inl f_height)), (t_member, .inl (k_member, 40, .inl f_member)), (t_lengthHome, .inl (k_lengthHome, 40, .inl f_lengthHome)), (t_runs, .inl (k_runs, 40, .inl f_runs)), (t_vacuum, .inl (k_vacuum, 40, .inl f_vacuum)), (t_reading, .inl (k_reading, 40, .inl f_reading)), (z_tubes, .inr (10, [.ref t_to, .ref t_height, .ref t_member, .ref t_lengthHome, .ref t_runs, .ref t_leak, .ref t_vacuum, .ref t_reading, .int n_tb]))]) (w1 := []) hP hD [] [0, 1, 2, 3, 4, 5, 6, 7, 8] rfl rfl (by decide) (by decide) hk1 hFc hP1 hD1
      clear hP1 hD1 hK1
      clear hP hD hS hPc hDc hKc hFc hk1 hz1 ht hvm
      clear t
      revert hS1 hPn hDn; generalize H1 = H; generalize locs1 = locs; intro hS hP hD
      change va_P (dC, dI) vwCl [(h0, .inr (11, [.ref z_tubes, .ref z_grove, .ref z_season, .ref z_past, .ref z_tank, .ref z_pan, .ref z_cellar, .ref z_coop, .ref z_tape, .ref z_reader, .ref z_facts, .ref z_book, .ref z_spare, .int n_fp])), (t_to, .inl (k_to, 40, .inl f_to)), (t_height, .inl (k_height, 40, .inl f_height)), (t_member, .inl (k_member, 40, .inl f_member)), (t_lengthHome, .inl (k_lengthHome, 40, .inl f_lengthHome)), (t_runs, .inl (k_runs, 40, .inl f_runs)), (t_vacuum, .inl (k_vacuum, 40, .inl f_vacuum)), (t_reading, .inl (k_reading, 40, .inl f_reading)), (z_tubes, .inr (10, [.ref t_to, .ref t_height, .ref t_member, .ref t_lengthHome, .ref t_runs, .ref t_leak, .ref t_vacuum, .ref t_reading, .int n_tb]))] H at hP
      change va_D A [(h0, .inr (11, [.ref z_tubes, .ref z_grove, .ref z_season, .ref z_past, .ref z_tank, .ref z_pan, .ref z_cellar, .ref z_coop, .ref z_tape, .ref z_reader, .ref z_facts, .ref z_book, .ref z_spare, .int n_fp])), (t_to, .inl (k_to, 40, .inl f_to)), (t_height, .inl (k_height, 40, .inl f_height)), (t_member, .inl (k_member, 40, .inl f_member)), (t_lengthHome, .inl (k_lengthHome, 40, .inl f_lengthHome)), (t_runs, .inl (k_runs, 40, .inl f_runs)), (t_vacuum, .inl (k_vacuum, 40, .inl f_vacuum)), (t_reading, .inl (k_reading, 40, .inl f_reading)), (z_tubes, .inr (10, [.ref t_to, .ref t_height, .ref t_member, .ref t_lengthHome, .ref t_runs, .ref t_leak, .ref t_vacuum, .ref t_reading, .int n_tb]))] at hD
      rcases h_8 with ⟨rfl, h_8⟩ | ⟨rfl, h_8⟩
      · refine lv_if_eq (tgt := 44) hx hb dX11_node_29 (by decide) (fun c_9 => absurd c_9 (by decide)) ?_
        intro _
        refine lv_iload hx hb dX11_node_32 (lv_at hl 4 rfl) ?_
        have hPc := hP.sub (ws' := []) [] rfl
        have hDc := hD.sub (ws' := []) [] (by decide) rfl
        have hKc := hK.sub (tys' := []) [] rfl
        have hFc := va_free (wc := []) hD hS hA [] rfl
        refine va_calli (va_runS (As := [.int v4]) (rest := []) ⟨hx, hb, hml, hown, htb⟩ (kX11_isMember l dC dI H.size v4 ) ⟨callB_of 1 htb (gd_c m_358) rfl rfl rfl (htb _ m_1) (htb _ m_356) hdX11_isMember ⟨(Nat.le_of_ble_eq_true rfl), (Nat.le_of_ble_eq_true rfl)⟩, htb _ m_357⟩ ⟨pcW_blind, pcW_at hPc hKc hDc hN⟩ rfl rfl hl.1 rfl (lv_room (Nat.le_of_ble_eq_true rfl)) dX11_node_34 ⟨(Nat.le_of_ble_eq_true rfl), (Nat.le_of_ble_eq_true rfl)⟩) hS (fun q _ h => hFc q h) hFc (fun r_10 u t H1 locs1 ht hvm h_11 hB hz1 hk1 hS1 => ?_)
        obtain ⟨hP1, hK1, hD1⟩ := hB
        rw [ht] at hP1
        obtain ⟨hPn, hDn⟩ := va_join (wr := [(h0, .inr (11, [.ref z_tubes, .ref z_grove, .ref z_season, .ref z_past, .ref z_tank, .ref z_pan, .ref z_cellar, .ref z_coop, .ref z_tape, .ref z_reader, .ref z_facts, .ref z_book, .ref z_spare, .int n_fp])), (t_to, .inl (k_to, 40, .inl f_to)), (t_height, .inl (k_height, 40, .inl f_height)), (t_member, .inl (k_member, 40, .inl f_member)), (t_lengthHome, .inl (k_lengthHome, 40, .inl f_lengthHome)), (t_runs, .inl (k_runs, 40, .inl f_runs)), (t_vacuum, .inl (k_vacuum, 40, .inl f_vacuum)), (t_reading, .inl (k_reading, 40, .inl f_reading)), (z_tubes, .inr (10, [.ref t_to, .ref t_height, .ref t_member, .ref t_lengthHome, .ref t_runs, .ref t_leak, .ref t_vacuum, .ref t_reading, .int n_tb]))]) (w1 := []) hP hD [] [0, 1, 2, 3, 4, 5, 6, 7, 8] rfl rfl (by decide) (by decide) hk1 hFc hP1 hD1
        clear hP1 hD1 hK1
        clear hP hD hS hPc hDc hKc hFc hk1 hz1 ht hvm
        clear t
        revert hS1 hPn hDn; generalize H1 = H; generalize locs1 = locs; intro hS hP hD
        change va_P (dC, dI) vwCl [(h0, .inr (11, [.ref z_tubes, .ref z_grove, .ref z_season, .ref z_past, .ref z_tank, .ref z_pan, .ref z_cellar, .ref z_coop, .ref z_tape, .ref z_reader, .ref z_facts, .ref z_book, .ref z_spare, .int n_fp])), (t_to, .inl (k_to, 40, .inl f_to)), (t_height, .inl (k_height, 40, .inl f_height)), (t_member, .inl (k_member, 40, .inl f_member)), (t_lengthHome, .inl (k_lengthHome, 40, .inl f_lengthHome)), (t_runs, .inl (k_runs, 40, .inl f_runs)), (t_vacuum, .inl (k_vacuum, 40, .inl f_vacuum)), (t_reading, .inl (k_reading, 40, .inl f_reading)), (z_tubes, .inr (10, [.ref t_to, .ref t_height, .ref t_member, .ref t_lengthHome, .ref t_runs, .ref t_leak, .ref t_vacuum, .ref t_reading, .int n_tb]))] H at hP
        change va_D A [(h0, .inr (11, [.ref z_tubes, .ref z_grove, .ref z_season, .ref z_past, .ref z_tank, .ref z_pan, .ref z_cellar, .ref z_coop, .ref z_tape, .ref z_reader, .ref z_facts, .ref z_book, .ref z_spare, .int n_fp])), (t_to, .inl (k_to, 40, .inl f_to)), (t_height, .inl (k_height, 40, .inl f_height)), (t_member, .inl (k_member, 40, .inl f_member)), (t_lengthHome, .inl (k_lengthHome, 40, .inl f_lengthHome)), (t_runs, .inl (k_runs, 40, .inl f_runs)), (t_vacuum, .inl (k_vacuum, 40, .inl f_vacuum)), (t_reading, .inl (k_reading, 40, .inl f_reading)), (z_tubes, .inr (10, [.ref t_to, .ref t_height, .ref t_member, .ref t_lengthHome, .ref t_runs, .ref t_leak, .ref t_vacuum, .ref t_reading, .int n_tb]))] at hD
        rcases h_11 with ⟨rfl, h_11⟩ | ⟨rfl, h_11⟩
        · refine lv_if_eq (tgt := 44) hx hb dX11_node_37 (by decide) (fun c_12 => absurd c_12 (by decide)) ?_
          intro _
          refine lv_iconst (v := 1) hx hb dX11_node_40 (by decide) ?_
          refine lv_goto (tgt := 45) hx hb dX11_node_41 (by decide) ?_
          refine lv_istore (lv' := [(5, .int 1), (0, .ref h0), (1, .int v1), (2, .int v2), (3, .int v3), (4, .int v4)]) hx hb dX11_node_45 hl (by decide) rfl ?_
          clear hl; intro ls hl
          refine lv_iload hx hb dX11_node_47 (lv_at hl 0 rfl) ?_
          refine lv_if_eq (tgt := 67) hx hb dX11_node_49 (by decide) (fun c_13 => absurd c_13 (by decide)) ?_
          intro _
          refine lv_aload_n hx hb dX11_node_52 rfl (lv_at hl 1 rfl) ?_
          refine va_get (D := (dC, dI)) (ci := 11) (v := .ref z_tubes) (C := RX11) (T := TX11) (N := 14) hx hb htb iX11 hown hK hP 0 rfl rfl 0 (Nat.le_of_ble_eq_true rfl) (htb _ m_302) (fun _ h9 => h9) rfl dX11_node_53 ?_
          refine lv_iload_n hx hb dX11_node_56 rfl (lv_at hl 2 rfl) ?_
          refine lv_iload_n hx hb dX11_node_57 rfl (lv_at hl 3 rfl) ?_
          refine lv_iload_n hx hb dX11_node_58 rfl (lv_at hl 4 rfl) ?_
          refine lv_iload hx hb dX11_node_59 (lv_at hl 5 rfl) ?_
          have hPc := hP.sub (ws' := [(z_tubes, .inr (10, [.ref t_to, .ref t_height, .ref t_member, .ref t_lengthHome, .ref t_runs, .ref t_leak, .ref t_vacuum, .ref t_reading, .int n_tb])), (t_to, .inl (k_to, 40, .inl f_to)), (t_height, .inl (k_height, 40, .inl f_height)), (t_member, .inl (k_member, 40, .inl f_member)), (t_lengthHome, .inl (k_lengthHome, 40, .inl f_lengthHome)), (t_runs, .inl (k_runs, 40, .inl f_runs)), (t_vacuum, .inl (k_vacuum, 40, .inl f_vacuum)), (t_reading, .inl (k_reading, 40, .inl f_reading))]) [8, 1, 2, 3, 4, 5, 6, 7] rfl
          have hDc := hD.sub (ws' := [(z_tubes, .inr (10, [.ref t_to, .ref t_height, .ref t_member, .ref t_lengthHome, .ref t_runs, .ref t_leak, .ref t_vacuum, .ref t_reading, .int n_tb])), (t_to, .inl (k_to, 40, .inl f_to)), (t_height, .inl (k_height, 40, .inl f_height)), (t_member, .inl (k_member, 40, .inl f_member)), (t_lengthHome, .inl (k_lengthHome, 40, .inl f_lengthHome)), (t_runs, .inl (k_runs, 40, .inl f_runs)), (t_vacuum, .inl (k_vacuum, 40, .inl f_vacuum)), (t_reading, .inl (k_reading, 40, .inl f_reading))]) [8, 1, 2, 3, 4, 5, 6, 7] (by decide) rfl
          have hKc := hK.sub (tys' := [(k_to, .int), (k_height, .int), (k_member, .int), (k_lengthHome, .int), (k_runs, .boolean), (k_vacuum, .int), (k_reading, .int)]) [0, 1, 2, 3, 4, 5, 6] rfl
          have hFc := va_free (wc := [(z_tubes, .inr (10, [.ref t_to, .ref t_height, .ref t_member, .ref t_lengthHome, .ref t_runs, .ref t_leak, .ref t_vacuum, .ref t_reading, .int n_tb])), (t_to, .inl (k_to, 40, .inl f_to)), (t_height, .inl (k_height, 40, .inl f_height)), (t_member, .inl (k_member, 40, .inl f_member)), (t_lengthHome, .inl (k_lengthHome, 40, .inl f_lengthHome)), (t_runs, .inl (k_runs, 40, .inl f_runs)), (t_vacuum, .inl (k_vacuum, 40, .inl f_vacuum)), (t_reading, .inl (k_reading, 40, .inl f_reading))]) hD hS hA [8, 1, 2, 3, 4, 5, 6, 7] rfl
          refine va_calli (va_runV (C := RX10) (As := [.int v1, .int v2, .int v3, .int v4]) (rest := []) ⟨hx, hb, hml, hown, htb⟩ (kX10_add l dC dI H.size z_tubes t_to t_height t_member t_lengthHome t_runs t_leak t_vacuum t_reading n_tb k_to k_height k_member k_lengthHome k_runs k_vacuum k_reading f_to f_height f_member f_lengthHome f_runs f_vacuum f_reading v1 v2 v3 v4 yb yvac h_2) ⟨callB_of 4 htb (gd_c m_362) rfl rfl rfl (htb _ m_2) (htb _ m_359) hdX10_add ⟨(Nat.le_of_ble_eq_true rfl), (Nat.le_of_ble_eq_true rfl)⟩, htb _ m_360, htb _ m_361⟩ ⟨pcW_blind, va_recv hKc hPc (ci := 10) (q0 := 0) rfl rfl, pcW_at hPc hKc hDc hN⟩ rfl rfl hl.1 rfl (lv_room (Nat.le_of_ble_eq_true rfl)) dX11_node_61 ⟨(Nat.le_of_ble_eq_true rfl), (Nat.le_of_ble_eq_true rfl)⟩) hS (fun q _ h => hFc q h) hFc (fun r_14 u t H1 locs1 ht hvm h_15 hB hz1 hk1 hS1 => ?_)
          obtain ⟨w_tb_16, w_to_17, w_height_18, w_member_19, w_lengthHome_20, w_runs_21, w_vacuum_22, w_reading_23, e_24, e_25, hP1, hK1, hD1⟩ := hB
          rw [ht] at hP1
          obtain ⟨hPn, hDn⟩ := va_join (wr := [(h0, .inr (11, [.ref z_tubes, .ref z_grove, .ref z_season, .ref z_past, .ref z_tank, .ref z_pan, .ref z_cellar, .ref z_coop, .ref z_tape, .ref z_reader, .ref z_facts, .ref z_book, .ref z_spare, .int n_fp]))]) (w1 := [(z_tubes, .inr (10, [.ref t_to, .ref t_height, .ref t_member, .ref t_lengthHome, .ref t_runs, .ref t_leak, .ref t_vacuum, .ref t_reading, .int w_tb_16])), (t_to, .inl (k_to, 40, .inl w_to_17)), (t_height, .inl (k_height, 40, .inl w_height_18)), (t_member, .inl (k_member, 40, .inl w_member_19)), (t_lengthHome, .inl (k_lengthHome, 40, .inl w_lengthHome_20)), (t_runs, .inl (k_runs, 40, .inl w_runs_21)), (t_vacuum, .inl (k_vacuum, 40, .inl w_vacuum_22)), (t_reading, .inl (k_reading, 40, .inl w_reading_23))]) hP hD [8, 1, 2, 3, 4, 5, 6, 7] [0] rfl rfl (by decide) (by decide) hk1 hFc hP1 hD1
          clear hP1 hD1 hK1
          clear hP hD hS hPc hDc hKc hFc hk1 hz1 ht hvm
          clear t
          revert hS1 hPn hDn; generalize H1 = H; generalize locs1 = locs; intro hS hP hD
          change va_P (dC, dI) vwCl [(h0, .inr (11, [.ref z_tubes, .ref z_grove, .ref z_season, .ref z_past, .ref z_tank, .ref z_pan, .ref z_cellar, .ref z_coop, .ref z_tape, .ref z_reader, .ref z_facts, .ref z_book, .ref z_spare, .int n_fp])), (z_tubes, .inr (10, [.ref t_to, .ref t_height, .ref t_member, .ref t_lengthHome, .ref t_runs, .ref t_leak, .ref t_vacuum, .ref t_reading, .int w_tb_16])), (t_to, .inl (k_to, 40, .inl w_to_17)), (t_height, .inl (k_height, 40, .inl w_height_18)), (t_member, .inl (k_member, 40, .inl w_member_19)), (t_lengthHome, .inl (k_lengthHome, 40, .inl w_lengthHome_20)), (t_runs, .inl (k_runs, 40, .inl w_runs_21)), (t_vacuum, .inl (k_vacuum, 40, .inl w_vacuum_22)), (t_reading, .inl (k_reading, 40, .inl w_reading_23))] H at hP
          change va_D A [(h0, .inr (11, [.ref z_tubes, .ref z_grove, .ref z_season, .ref z_past, .ref z_tank, .ref z_pan, .ref z_cellar, .ref z_coop, .ref z_tape, .ref z_reader, .ref z_facts, .ref z_book, .ref z_spare, .int n_fp])), (z_tubes, .inr (10, [.ref t_to, .ref t_height, .ref t_member, .ref t_lengthHome, .ref t_runs, .ref t_leak, .ref t_vacuum, .ref t_reading, .int w_tb_16])), (t_to, .inl (k_to, 40, .inl w_to_17)), (t_height, .inl (k_height, 40, .inl w_height_18)), (t_member, .inl (k_member, 40, .inl w_member_19)), (t_lengthHome, .inl (k_lengthHome, 40, .inl w_lengthHome_20)), (t_runs, .inl (k_runs, 40, .inl w_runs_21)), (t_vacuum, .inl (k_vacuum, 40, .inl w_vacuum_22)), (t_reading, .inl (k_reading, 40, .inl w_reading_23))] at hD
          refine lv_goto (tgt := 68) hx hb dX11_node_64 (by decide) ?_
          refine W.widen (k := 0) (n := 0) (Nat.le_of_ble_eq_true rfl) (Nat.le_of_ble_eq_true rfl) ?_
          have hP9 := hP.sub (ws' := [(h0, .inr (11, [.ref z_tubes, .ref z_grove, .ref z_season, .ref z_past, .ref z_tank, .ref z_pan, .ref z_cellar, .ref z_coop, .ref z_tape, .ref z_reader, .ref z_facts, .ref z_book, .ref z_spare, .int n_fp])), (z_tubes, .inr (10, [.ref t_to, .ref t_height, .ref t_member, .ref t_lengthHome, .ref t_runs, .ref t_leak, .ref t_vacuum, .ref t_reading, .int w_tb_16])), (t_to, .inl (k_to, 40, .inl w_to_17)), (t_height, .inl (k_height, 40, .inl w_height_18)), (t_member, .inl (k_member, 40, .inl w_member_19)), (t_lengthHome, .inl (k_lengthHome, 40, .inl w_lengthHome_20)), (t_runs, .inl (k_runs, 40, .inl w_runs_21)), (t_vacuum, .inl (k_vacuum, 40, .inl w_vacuum_22)), (t_reading, .inl (k_reading, 40, .inl w_reading_23))]) [0, 1, 2, 3, 4, 5, 6, 7, 8] rfl
          have hD9 := hD.sub (ws' := [(h0, .inr (11, [.ref z_tubes, .ref z_grove, .ref z_season, .ref z_past, .ref z_tank, .ref z_pan, .ref z_cellar, .ref z_coop, .ref z_tape, .ref z_reader, .ref z_facts, .ref z_book, .ref z_spare, .int n_fp])), (z_tubes, .inr (10, [.ref t_to, .ref t_height, .ref t_member, .ref t_lengthHome, .ref t_runs, .ref t_leak, .ref t_vacuum, .ref t_reading, .int w_tb_16])), (t_to, .inl (k_to, 40, .inl w_to_17)), (t_height, .inl (k_height, 40, .inl w_height_18)), (t_member, .inl (k_member, 40, .inl w_member_19)), (t_lengthHome, .inl (k_lengthHome, 40, .inl w_lengthHome_20)), (t_runs, .inl (k_runs, 40, .inl w_runs_21)), (t_vacuum, .inl (k_vacuum, 40, .inl w_vacuum_22)), (t_reading, .inl (k_reading, 40, .inl w_reading_23))]) [0, 1, 2, 3, 4, 5, 6, 7, 8] (by decide) rfl
          have hK9 := hK.sub (tys' := []) [] rfl
          exact W.iret (v := r_14) hx hb hr (fun t ht hW => ⟨⟨r_14, (), rfl, (lg_X11_node_1 n_tb v1 v2 v3 v4 w_tb_16 r_14 yb h_2 h_5 h_8 h_11 e_24 h_15), ⟨w_tb_16, w_to_17, w_height_18, w_member_19, w_lengthHome_20, w_runs_21, w_vacuum_22, w_reading_23, (lg_X11_node_0 n_tb v1 v2 v3 v4 w_tb_16 r_14 yb h_2 h_5 h_8 h_11 e_24 h_15), e_25, by rw [ht]; exact hP9, va_K.moved hW.alike hK9, hD9⟩⟩, hS.F ht⟩) hS.2.2 dX11_node_68
        · refine lv_if_eq (tgt := 44) hx hb dX11_node_37 (by decide) ?_ (fun c_26 => absurd (by decide) c_26)
          intro _
          refine lv_iconst (v := 0) hx hb dX11_node_44 (by decide) ?_
          refine lv_istore (lv' := [(5, .int 0), (0, .ref h0), (1, .int v1), (2, .int v2), (3, .int v3), (4, .int v4)]) hx hb dX11_node_45 hl (by decide) rfl ?_
          clear hl; intro ls hl
          refine lv_iload hx hb dX11_node_47 (lv_at hl 0 rfl) ?_
          refine lv_if_eq (tgt := 67) hx hb dX11_node_49 (by decide) ?_ (fun c_27 => absurd (by decide) c_27)
          intro _
          refine lv_iconst (v := (-1)) hx hb dX11_node_67 (by decide) ?_
          refine W.widen (k := 0) (n := 0) (Nat.le_of_ble_eq_true rfl) (Nat.le_of_ble_eq_true rfl) ?_
          have hP9 := hP.sub (ws' := [(h0, .inr (11, [.ref z_tubes, .ref z_grove, .ref z_season, .ref z_past, .ref z_tank, .ref z_pan, .ref z_cellar, .ref z_coop, .ref z_tape, .ref z_reader, .ref z_facts, .ref z_book, .ref z_spare, .int n_fp])), (z_tubes, .inr (10, [.ref t_to, .ref t_height, .ref t_member, .ref t_lengthHome, .ref t_runs, .ref t_leak, .ref t_vacuum, .ref t_reading, .int n_tb])), (t_to, .inl (k_to, 40, .inl f_to)), (t_height, .inl (k_height, 40, .inl f_height)), (t_member, .inl (k_member, 40, .inl f_member)), (t_lengthHome, .inl (k_lengthHome, 40, .inl f_lengthHome)), (t_runs, .inl (k_runs, 40, .inl f_runs)), (t_vacuum, .inl (k_vacuum, 40, .inl f_vacuum)), (t_reading, .inl (k_reading, 40, .inl f_reading))]) [0, 8, 1, 2, 3, 4, 5, 6, 7] rfl
          have hD9 := hD.sub (ws' := [(h0, .inr (11, [.ref z_tubes, .ref z_grove, .ref z_season, .ref z_past, .ref z_tank, .ref z_pan, .ref z_cellar, .ref z_coop, .ref z_tape, .ref z_reader, .ref z_facts, .ref z_book, .ref z_spare, .int n_fp])), (z_tubes, .inr (10, [.ref t_to, .ref t_height, .ref t_member, .ref t_lengthHome, .ref t_runs, .ref t_leak, .ref t_vacuum, .ref t_reading, .int n_tb])), (t_to, .inl (k_to, 40, .inl f_to)), (t_height, .inl (k_height, 40, .inl f_height)), (t_member, .inl (k_member, 40, .inl f_member)), (t_lengthHome, .inl (k_lengthHome, 40, .inl f_lengthHome)), (t_runs, .inl (k_runs, 40, .inl f_runs)), (t_vacuum, .inl (k_vacuum, 40, .inl f_vacuum)), (t_reading, .inl (k_reading, 40, .inl f_reading))]) [0, 8, 1, 2, 3, 4, 5, 6, 7] (by decide) rfl
          have hK9 := hK.sub (tys' := []) [] rfl
          exact W.iret (v := (-1)) hx hb hr (fun t ht hW => ⟨⟨(-1), (), rfl, (lg_X11_node_3 n_tb v1 v2 v3 v4 yb h_2 h_5 h_8 h_11), ⟨n_tb, f_to, f_height, f_member, f_lengthHome, f_runs, f_vacuum, f_reading, (lg_X11_node_2 n_tb v1 v2 v3 v4 yb h_2 h_5 h_8 h_11), yvac, by rw [ht]; exact hP9, va_K.moved hW.alike hK9, hD9⟩⟩, hS.F ht⟩) hS.2.2 dX11_node_68
      · refine lv_if_eq (tgt := 44) hx hb dX11_node_29 (by decide) ?_ (fun c_28 => absurd (by decide) c_28)
        intro _
        refine lv_iconst (v := 0) hx hb dX11_node_44 (by decide) ?_
        refine lv_istore (lv' := [(5, .int 0), (0, .ref h0), (1, .int v1), (2, .int v2), (3, .int v3), (4, .int v4)]) hx hb dX11_node_45 hl (by decide) rfl ?_
        clear hl; intro ls hl
        refine lv_iload hx hb dX11_node_47 (lv_at hl 0 rfl) ?_
        refine lv_if_eq (tgt := 67) hx hb dX11_node_49 (by decide) ?_ (fun c_29 => absurd (by decide) c_29)
        intro _
        refine lv_iconst (v := (-1)) hx hb dX11_node_67 (by decide) ?_
        refine W.widen (k := 0) (n := 0) (Nat.le_of_ble_eq_true rfl) (Nat.le_of_ble_eq_true rfl) ?_
        have hP9 := hP.sub (ws' := [(h0, .inr (11, [.ref z_tubes, .ref z_grove, .ref z_season, .ref z_past, .ref z_tank, .ref z_pan, .ref z_cellar, .ref z_coop, .ref z_tape, .ref z_reader, .ref z_facts, .ref z_book, .ref z_spare, .int n_fp])), (z_tubes, .inr (10, [.ref t_to, .ref t_height, .ref t_member, .ref t_lengthHome, .ref t_runs, .ref t_leak, .ref t_vacuum, .ref t_reading, .int n_tb])), (t_to, .inl (k_to, 40, .inl f_to)), (t_height, .inl (k_height, 40, .inl f_height)), (t_member, .inl (k_member, 40, .inl f_member)), (t_lengthHome, .inl (k_lengthHome, 40, .inl f_lengthHome)), (t_runs, .inl (k_runs, 40, .inl f_runs)), (t_vacuum, .inl (k_vacuum, 40, .inl f_vacuum)), (t_reading, .inl (k_reading, 40, .inl f_reading))]) [0, 8, 1, 2, 3, 4, 5, 6, 7] rfl
        have hD9 := hD.sub (ws' := [(h0, .inr (11, [.ref z_tubes, .ref z_grove, .ref z_season, .ref z_past, .ref z_tank, .ref z_pan, .ref z_cellar, .ref z_coop, .ref z_tape, .ref z_reader, .ref z_facts, .ref z_book, .ref z_spare, .int n_fp])), (z_tubes, .inr (10, [.ref t_to, .ref t_height, .ref t_member, .ref t_lengthHome, .ref t_runs, .ref t_leak, .ref t_vacuum, .ref t_reading, .int n_tb])), (t_to, .inl (k_to, 40, .inl f_to)), (t_height, .inl (k_height, 40, .inl f_height)), (t_member, .inl (k_member, 40, .inl f_member)), (t_lengthHome, .inl (k_lengthHome, 40, .inl f_lengthHome)), (t_runs, .inl (k_runs, 40, .inl f_runs)), (t_vacuum, .inl (k_vacuum, 40, .inl f_vacuum)), (t_reading, .inl (k_reading, 40, .inl f_reading))]) [0, 8, 1, 2, 3, 4, 5, 6, 7] (by decide) rfl
        have hK9 := hK.sub (tys' := []) [] rfl
        exact W.iret (v := (-1)) hx hb hr (fun t ht hW => ⟨⟨(-1), (), rfl, (lg_X11_node_5 n_tb v1 v2 v3 yb h_2 h_5 h_8), ⟨n_tb, f_to, f_height, f_member, f_lengthHome, f_runs, f_vacuum, f_reading, (lg_X11_node_4 n_tb v1 v2 v3 yb h_2 h_5 h_8), yvac, by rw [ht]; exact hP9, va_K.moved hW.alike hK9, hD9⟩⟩, hS.F ht⟩) hS.2.2 dX11_node_68
    · refine lv_if_eq (tgt := 44) hx hb dX11_node_18 (by decide) ?_ (fun c_30 => absurd (by decide) c_30)
      intro _
      refine lv_iconst (v := 0) hx hb dX11_node_44 (by decide) ?_
      refine lv_istore (lv' := [(5, .int 0), (0, .ref h0), (1, .int v1), (2, .int v2), (3, .int v3), (4, .int v4)]) hx hb dX11_node_45 hl (by decide) rfl ?_
      clear hl; intro ls hl
      refine lv_iload hx hb dX11_node_47 (lv_at hl 0 rfl) ?_
      refine lv_if_eq (tgt := 67) hx hb dX11_node_49 (by decide) ?_ (fun c_31 => absurd (by decide) c_31)
      intro _
      refine lv_iconst (v := (-1)) hx hb dX11_node_67 (by decide) ?_
      refine W.widen (k := 0) (n := 0) (Nat.le_of_ble_eq_true rfl) (Nat.le_of_ble_eq_true rfl) ?_
      have hP9 := hP.sub (ws' := [(h0, .inr (11, [.ref z_tubes, .ref z_grove, .ref z_season, .ref z_past, .ref z_tank, .ref z_pan, .ref z_cellar, .ref z_coop, .ref z_tape, .ref z_reader, .ref z_facts, .ref z_book, .ref z_spare, .int n_fp])), (z_tubes, .inr (10, [.ref t_to, .ref t_height, .ref t_member, .ref t_lengthHome, .ref t_runs, .ref t_leak, .ref t_vacuum, .ref t_reading, .int n_tb])), (t_to, .inl (k_to, 40, .inl f_to)), (t_height, .inl (k_height, 40, .inl f_height)), (t_member, .inl (k_member, 40, .inl f_member)), (t_lengthHome, .inl (k_lengthHome, 40, .inl f_lengthHome)), (t_runs, .inl (k_runs, 40, .inl f_runs)), (t_vacuum, .inl (k_vacuum, 40, .inl f_vacuum)), (t_reading, .inl (k_reading, 40, .inl f_reading))]) [0, 8, 1, 2, 3, 4, 5, 6, 7] rfl
      have hD9 := hD.sub (ws' := [(h0, .inr (11, [.ref z_tubes, .ref z_grove, .ref z_season, .ref z_past, .ref z_tank, .ref z_pan, .ref z_cellar, .ref z_coop, .ref z_tape, .ref z_reader, .ref z_facts, .ref z_book, .ref z_spare, .int n_fp])), (z_tubes, .inr (10, [.ref t_to, .ref t_height, .ref t_member, .ref t_lengthHome, .ref t_runs, .ref t_leak, .ref t_vacuum, .ref t_reading, .int n_tb])), (t_to, .inl (k_to, 40, .inl f_to)), (t_height, .inl (k_height, 40, .inl f_height)), (t_member, .inl (k_member, 40, .inl f_member)), (t_lengthHome, .inl (k_lengthHome, 40, .inl f_lengthHome)), (t_runs, .inl (k_runs, 40, .inl f_runs)), (t_vacuum, .inl (k_vacuum, 40, .inl f_vacuum)), (t_reading, .inl (k_reading, 40, .inl f_reading))]) [0, 8, 1, 2, 3, 4, 5, 6, 7] (by decide) rfl
      have hK9 := hK.sub (tys' := []) [] rfl
      exact W.iret (v := (-1)) hx hb hr (fun t ht hW => ⟨⟨(-1), (), rfl, (lg_X11_node_7 n_tb v1 v2 yb h_2 h_5), ⟨n_tb, f_to, f_height, f_member, f_lengthHome, f_runs, f_vacuum, f_reading, (lg_X11_node_6 n_tb v1 v2 yb h_2 h_5), yvac, by rw [ht]; exact hP9, va_K.moved hW.alike hK9, hD9⟩⟩, hS.F ht⟩) hS.2.2 dX11_node_68
  · refine lv_if_eq (tgt := 44) hx hb dX11_node_8 (by decide) ?_ (fun c_32 => absurd (by decide) c_32)
    intro _
    refine lv_iconst (v := 0) hx hb dX11_node_44 (by decide) ?_
    refine lv_istore (lv' := [(5, .int 0), (0, .ref h0), (1, .int v1), (2, .int v2), (3, .int v3), (4, .int v4)]) hx hb dX11_node_45 hl (by decide) rfl ?_
    clear hl; intro ls hl
    refine lv_iload hx hb dX11_node_47 (lv_at hl 0 rfl) ?_
    refine lv_if_eq (tgt := 67) hx hb dX11_node_49 (by decide) ?_ (fun c_33 => absurd (by decide) c_33)
    intro _
    refine lv_iconst (v := (-1)) hx hb dX11_node_67 (by decide) ?_
    refine W.widen (k := 0) (n := 0) (Nat.le_of_ble_eq_true rfl) (Nat.le_of_ble_eq_true rfl) ?_
    have hP9 := hP.sub (ws' := [(h0, .inr (11, [.ref z_tubes, .ref z_grove, .ref z_season, .ref z_past, .ref z_tank, .ref z_pan, .ref z_cellar, .ref z_coop, .ref z_tape, .ref z_reader, .ref z_facts, .ref z_book, .ref z_spare, .int n_fp])), (z_tubes, .inr (10, [.ref t_to, .ref t_height, .ref t_member, .ref t_lengthHome, .ref t_runs, .ref t_leak, .ref t_vacuum, .ref t_reading, .int n_tb])), (t_to, .inl (k_to, 40, .inl f_to)), (t_height, .inl (k_height, 40, .inl f_height)), (t_member, .inl (k_member, 40, .inl f_member)), (t_lengthHome, .inl (k_lengthHome, 40, .inl f_lengthHome)), (t_runs, .inl (k_runs, 40, .inl f_runs)), (t_vacuum, .inl (k_vacuum, 40, .inl f_vacuum)), (t_reading, .inl (k_reading, 40, .inl f_reading))]) [0, 8, 1, 2, 3, 4, 5, 6, 7] rfl
    have hD9 := hD.sub (ws' := [(h0, .inr (11, [.ref z_tubes, .ref z_grove, .ref z_season, .ref z_past, .ref z_tank, .ref z_pan, .ref z_cellar, .ref z_coop, .ref z_tape, .ref z_reader, .ref z_facts, .ref z_book, .ref z_spare, .int n_fp])), (z_tubes, .inr (10, [.ref t_to, .ref t_height, .ref t_member, .ref t_lengthHome, .ref t_runs, .ref t_leak, .ref t_vacuum, .ref t_reading, .int n_tb])), (t_to, .inl (k_to, 40, .inl f_to)), (t_height, .inl (k_height, 40, .inl f_height)), (t_member, .inl (k_member, 40, .inl f_member)), (t_lengthHome, .inl (k_lengthHome, 40, .inl f_lengthHome)), (t_runs, .inl (k_runs, 40, .inl f_runs)), (t_vacuum, .inl (k_vacuum, 40, .inl f_vacuum)), (t_reading, .inl (k_reading, 40, .inl f_reading))]) [0, 8, 1, 2, 3, 4, 5, 6, 7] (by decide) rfl
    have hK9 := hK.sub (tys' := []) [] rfl
    exact W.iret (v := (-1)) hx hb hr (fun t ht hW => ⟨⟨(-1), (), rfl, (lg_X11_node_9 n_tb v1 yb h_2), ⟨n_tb, f_to, f_height, f_member, f_lengthHome, f_runs, f_vacuum, f_reading, (lg_X11_node_8 n_tb v1 yb h_2), yvac, by rw [ht]; exact hP9, va_K.moved hW.alike hK9, hD9⟩⟩, hS.F ht⟩) hS.2.2 dX11_node_68

theorem lg_X11_tree_0 (n_tb : Int32) (n_tr : Int32) (n_ho : Int32) (v1 : Int32) (v2 : Int32) (w_tr_10 : Int32) (r_8 : Int32) (yg : 0 ≤ n_tr.toInt ∧ n_tr.toInt ≤ 60 ∧ 0 ≤ n_ho.toInt ∧ n_ho.toInt ≤ 300) (h_2 : 1 ≤ v1.toInt ∧ v1.toInt < n_tb.toInt) (h_5 : (30 : Int) ≤ v2.toInt ∧ v2.toInt ≤ (400 : Int)) (e_13 : (n_tr.toInt < 60 ∧ w_tr_10.toInt = n_tr.toInt + 1) ∨ (n_tr.toInt = 60 ∧ w_tr_10.toInt = n_tr.toInt)) (h_9 : (n_tr.toInt < 60 ∧ r_8.toInt = n_tr.toInt) ∨ (n_tr.toInt = 60 ∧ r_8.toInt = (-1))) : 0 ≤ w_tr_10.toInt ∧ w_tr_10.toInt ≤ 60 ∧ 0 ≤ n_ho.toInt ∧ n_ho.toInt ≤ 300 := by
  have := rg_rng n_tb; have := rg_rng n_tr; have := rg_rng n_ho; have := rg_rng v1; have := rg_rng v2; have := rg_rng w_tr_10; have := rg_rng r_8; omega
theorem lg_X11_tree_1 (n_tb : Int32) (n_tr : Int32) (n_ho : Int32) (v1 : Int32) (v2 : Int32) (w_tr_10 : Int32) (r_8 : Int32) (yg : 0 ≤ n_tr.toInt ∧ n_tr.toInt ≤ 60 ∧ 0 ≤ n_ho.toInt ∧ n_ho.toInt ≤ 300) (h_2 : 1 ≤ v1.toInt ∧ v1.toInt < n_tb.toInt) (h_5 : (30 : Int) ≤ v2.toInt ∧ v2.toInt ≤ (400 : Int)) (e_13 : (n_tr.toInt < 60 ∧ w_tr_10.toInt = n_tr.toInt + 1) ∨ (n_tr.toInt = 60 ∧ w_tr_10.toInt = n_tr.toInt)) (h_9 : (n_tr.toInt < 60 ∧ r_8.toInt = n_tr.toInt) ∨ (n_tr.toInt = 60 ∧ r_8.toInt = (-1))) : True := by
  have := rg_rng n_tb; have := rg_rng n_tr; have := rg_rng n_ho; have := rg_rng v1; have := rg_rng v2; have := rg_rng w_tr_10; have := rg_rng r_8; first | trivial | omega
theorem lg_X11_tree_2 (n_tb : Int32) (n_tr : Int32) (n_ho : Int32) (v1 : Int32) (v2 : Int32) (yg : 0 ≤ n_tr.toInt ∧ n_tr.toInt ≤ 60 ∧ 0 ≤ n_ho.toInt ∧ n_ho.toInt ≤ 300) (h_2 : 1 ≤ v1.toInt ∧ v1.toInt < n_tb.toInt) (h_5 : ¬ ((30 : Int) ≤ v2.toInt ∧ v2.toInt ≤ (400 : Int))) : 0 ≤ n_tr.toInt ∧ n_tr.toInt ≤ 60 ∧ 0 ≤ n_ho.toInt ∧ n_ho.toInt ≤ 300 := by
  have := rg_rng n_tb; have := rg_rng n_tr; have := rg_rng n_ho; have := rg_rng v1; have := rg_rng v2; omega
theorem lg_X11_tree_3 (n_tb : Int32) (n_tr : Int32) (n_ho : Int32) (v1 : Int32) (v2 : Int32) (yg : 0 ≤ n_tr.toInt ∧ n_tr.toInt ≤ 60 ∧ 0 ≤ n_ho.toInt ∧ n_ho.toInt ≤ 300) (h_2 : 1 ≤ v1.toInt ∧ v1.toInt < n_tb.toInt) (h_5 : ¬ ((30 : Int) ≤ v2.toInt ∧ v2.toInt ≤ (400 : Int))) : True := by
  have := rg_rng n_tb; have := rg_rng n_tr; have := rg_rng n_ho; have := rg_rng v1; have := rg_rng v2; first | trivial | omega
theorem lg_X11_tree_4 (n_tb : Int32) (n_tr : Int32) (n_ho : Int32) (v1 : Int32) (yg : 0 ≤ n_tr.toInt ∧ n_tr.toInt ≤ 60 ∧ 0 ≤ n_ho.toInt ∧ n_ho.toInt ≤ 300) (h_2 : ¬ (1 ≤ v1.toInt ∧ v1.toInt < n_tb.toInt)) : 0 ≤ n_tr.toInt ∧ n_tr.toInt ≤ 60 ∧ 0 ≤ n_ho.toInt ∧ n_ho.toInt ≤ 300 := by
  have := rg_rng n_tb; have := rg_rng n_tr; have := rg_rng n_ho; have := rg_rng v1; omega
theorem lg_X11_tree_5 (n_tb : Int32) (n_tr : Int32) (n_ho : Int32) (v1 : Int32) (yg : 0 ≤ n_tr.toInt ∧ n_tr.toInt ≤ 60 ∧ 0 ≤ n_ho.toInt ∧ n_ho.toInt ≤ 300) (h_2 : ¬ (1 ≤ v1.toInt ∧ v1.toInt < n_tb.toInt)) : True := by
  have := rg_rng n_tb; have := rg_rng n_tr; have := rg_rng n_ho; have := rg_rng v1; first | trivial | omega
set_option maxHeartbeats 4000000 in
set_option maxRecDepth 100000 in
theorem kX11_tree (l : Launch) (dC : Nat → ClassId) (dI : Nat → Nat → Nat) (sz : Nat) (h0 : Nat) (z_tubes : Nat) (z_grove : Nat) (z_season : Nat) (z_past : Nat) (z_tank : Nat) (z_pan : Nat) (z_cellar : Nat) (z_coop : Nat) (z_tape : Nat) (z_reader : Nat) (z_facts : Nat) (z_book : Nat) (z_spare : Nat) (n_fp : Int32) (t_to : Nat) (t_height : Nat) (t_member : Nat) (t_lengthHome : Nat) (t_runs : Nat) (t_leak : Nat) (t_vacuum : Nat) (t_reading : Nat) (n_tb : Int32) (g_node : Nat) (g_girth : Nat) (g_gave : Nat) (g_holeTree : Nat) (g_holeAngle : Nat) (g_holeYear : Nat) (n_tr : Int32) (n_ho : Int32) (k_node : ClassId) (k_girth : ClassId) (f_node : Nat → Int32) (f_girth : Nat → Int32) (v1 : Int32) (v2 : Int32) (yg : 0 ≤ n_tr.toInt ∧ n_tr.toInt ≤ 60 ∧ 0 ≤ n_ho.toInt ∧ n_ho.toInt ≤ 300) : Met l yX11_tree (Cond.code yX11_tree cX11_tree 4 (some .int) :: bg) ({ frames := 2, cells := 0, slots := 0, locals := 42 }) (pcW dC dI [.ref h0, .int v1, .int v2] sz [(h0, .inr (11, [.ref z_tubes, .ref z_grove, .ref z_season, .ref z_past, .ref z_tank, .ref z_pan, .ref z_cellar, .ref z_coop, .ref z_tape, .ref z_reader, .ref z_facts, .ref z_book, .ref z_spare, .int n_fp])), (z_tubes, .inr (10, [.ref t_to, .ref t_height, .ref t_member, .ref t_lengthHome, .ref t_runs, .ref t_leak, .ref t_vacuum, .ref t_reading, .int n_tb])), (z_grove, .inr (2, [.ref g_node, .ref g_girth, .ref g_gave, .ref g_holeTree, .ref g_holeAngle, .ref g_holeYear, .int n_tr, .int n_ho])), (g_node, .inl (k_node, 60, .inl f_node)), (g_girth, .inl (k_girth, 60, .inl f_girth))] [(k_node, .int), (k_girth, .int)]) (va_Qi (fun (r : Int32) (u : Unit) => True) (fun (u : Unit) (t : State) => ∃ (w_tr : Int32) (w_node : Nat → Int32) (w_girth : Nat → Int32), (0 ≤ w_tr.toInt ∧ w_tr.toInt ≤ 60 ∧ 0 ≤ n_ho.toInt ∧ n_ho.toInt ≤ 300) ∧ va_P (dC, dI) vwCl [(h0, .inr (11, [.ref z_tubes, .ref z_grove, .ref z_season, .ref z_past, .ref z_tank, .ref z_pan, .ref z_cellar, .ref z_coop, .ref z_tape, .ref z_reader, .ref z_facts, .ref z_book, .ref z_spare, .int n_fp])), (z_tubes, .inr (10, [.ref t_to, .ref t_height, .ref t_member, .ref t_lengthHome, .ref t_runs, .ref t_leak, .ref t_vacuum, .ref t_reading, .int n_tb])), (z_grove, .inr (2, [.ref g_node, .ref g_girth, .ref g_gave, .ref g_holeTree, .ref g_holeAngle, .ref g_holeYear, .int w_tr, .int n_ho])), (g_node, .inl (k_node, 60, .inl w_node)), (g_girth, .inl (k_girth, 60, .inl w_girth))] t.heap ∧ va_K (dC, dI) vwCl [] t ∧ va_D (va_A [(h0, .inr (11, [.ref z_tubes, .ref z_grove, .ref z_season, .ref z_past, .ref z_tank, .ref z_pan, .ref z_cellar, .ref z_coop, .ref z_tape, .ref z_reader, .ref z_facts, .ref z_book, .ref z_spare, .int n_fp])), (z_tubes, .inr (10, [.ref t_to, .ref t_height, .ref t_member, .ref t_lengthHome, .ref t_runs, .ref t_leak, .ref t_vacuum, .ref t_reading, .int n_tb])), (z_grove, .inr (2, [.ref g_node, .ref g_girth, .ref g_gave, .ref g_holeTree, .ref g_holeAngle, .ref g_holeYear, .int n_tr, .int n_ho])), (g_node, .inl (k_node, 60, .inl f_node)), (g_girth, .inl (k_girth, 60, .inl f_girth))] sz) [(h0, .inr (11, [.ref z_tubes, .ref z_grove, .ref z_season, .ref z_past, .ref z_tank, .ref z_pan, .ref z_cellar, .ref z_coop, .ref z_tape, .ref z_reader, .ref z_facts, .ref z_book, .ref z_spare, .int n_fp])), (z_tubes, .inr (10, [.ref t_to, .ref t_height, .ref t_member, .ref t_lengthHome, .ref t_runs, .ref t_leak, .ref t_vacuum, .ref t_reading, .int n_tb])), (z_grove, .inr (2, [.ref g_node, .ref g_girth, .ref g_gave, .ref g_holeTree, .ref g_holeAngle, .ref g_holeYear, .int w_tr, .int n_ho])), (g_node, .inl (k_node, 60, .inl w_node)), (g_girth, .inl (k_girth, 60, .inl w_girth))]) (va_A [(h0, .inr (11, [.ref z_tubes, .ref z_grove, .ref z_season, .ref z_past, .ref z_tank, .ref z_pan, .ref z_cellar, .ref z_coop, .ref z_tape, .ref z_reader, .ref z_facts, .ref z_book, .ref z_spare, .int n_fp])), (z_tubes, .inr (10, [.ref t_to, .ref t_height, .ref t_member, .ref t_lengthHome, .ref t_runs, .ref t_leak, .ref t_vacuum, .ref t_reading, .int n_tb])), (z_grove, .inr (2, [.ref g_node, .ref g_girth, .ref g_gave, .ref g_holeTree, .ref g_holeAngle, .ref g_holeYear, .int n_tr, .int n_ho])), (g_node, .inl (k_node, 60, .inl f_node)), (g_girth, .inl (k_girth, 60, .inl f_girth))] sz)) 0 0 (va_A [(h0, .inr (11, [.ref z_tubes, .ref z_grove, .ref z_season, .ref z_past, .ref z_tank, .ref z_pan, .ref z_cellar, .ref z_coop, .ref z_tape, .ref z_reader, .ref z_facts, .ref z_book, .ref z_spare, .int n_fp])), (z_tubes, .inr (10, [.ref t_to, .ref t_height, .ref t_member, .ref t_lengthHome, .ref t_runs, .ref t_leak, .ref t_vacuum, .ref t_reading, .int n_tb])), (z_grove, .inr (2, [.ref g_node, .ref g_girth, .ref g_gave, .ref g_holeTree, .ref g_holeAngle, .ref g_holeYear, .int n_tr, .int n_ho])), (g_node, .inl (k_node, 60, .inl f_node)), (g_girth, .inl (k_girth, 60, .inl f_girth))] sz) := by
  refine Met.ofW (cc := cX11_tree) (maxL := 4) (ret := (some .int)) pnX11 rfl ?_
  intro p e s m args below meth c s₁ B hml hv
  obtain ⟨rfl, hsz, hP, hK, hD0, hN⟩ := hv
  have hx := B.exec
  have hb := B.bytes
  have hr := B.returns
  have htb : ∀ w ∈ bg, w.before [.ref h0, .int v1, .int v2].toArray s = true := fun w h => atoms_spec (ws := Cond.code yX11_tree cX11_tree 4 (some .int) :: bg) B.pre w (List.mem_cons_of_mem _ h)
  have hown : s.vm.findClass RX11 = some m.cls := findClass_of_methodNamed B.named
  have hlocks := B.notSynchronized
  subst hsz
  have hD := hD0.self (sz := s.heap.size)
  generalize hAe : va_A [(h0, .inr (11, [.ref z_tubes, .ref z_grove, .ref z_season, .ref z_past, .ref z_tank, .ref z_pan, .ref z_cellar, .ref z_coop, .ref z_tape, .ref z_reader, .ref z_facts, .ref z_book, .ref z_spare, .int n_fp])), (z_tubes, .inr (10, [.ref t_to, .ref t_height, .ref t_member, .ref t_lengthHome, .ref t_runs, .ref t_leak, .ref t_vacuum, .ref t_reading, .int n_tb])), (z_grove, .inr (2, [.ref g_node, .ref g_girth, .ref g_gave, .ref g_holeTree, .ref g_holeAngle, .ref g_holeYear, .int n_tr, .int n_ho])), (g_node, .inl (k_node, 60, .inl f_node)), (g_girth, .inl (k_girth, 60, .inl f_girth))] s.heap.size = A at hD ⊢
  have hA : ∀ q : Nat, s.heap.size ≤ q → A q := fun q h => by rw [← hAe]; exact Or.inr h
  have hS : va_S A s.heap s.heap [] := va_S.rf
  have hl := lv_entry ([.ref h0, .int v1, .int v2]) (n := 4) (Nat.le_of_ble_eq_true rfl)
  rw [lg_entry_eq]
  generalize (lg_sl ([.ref h0, .int v1, .int v2]) ++ List.replicate (4 - (lg_sl ([.ref h0, .int v1, .int v2])).length) Slot.unset).toArray = ls at hl ⊢
  change lv_has ls 4 [(0, .ref h0), (1, .int v1), (2, .int v2)] at hl
  clear hD0 hAe
  refine go0 (wsP := fun H => va_P (dC, dI) vwCl [(h0, .inr (11, [.ref z_tubes, .ref z_grove, .ref z_season, .ref z_past, .ref z_tank, .ref z_pan, .ref z_cellar, .ref z_coop, .ref z_tape, .ref z_reader, .ref z_facts, .ref z_book, .ref z_spare, .int n_fp])), (z_tubes, .inr (10, [.ref t_to, .ref t_height, .ref t_member, .ref t_lengthHome, .ref t_runs, .ref t_leak, .ref t_vacuum, .ref t_reading, .int n_tb])), (z_grove, .inr (2, [.ref g_node, .ref g_girth, .ref g_gave, .ref g_holeTree, .ref g_holeAngle, .ref g_holeYear, .int n_tr, .int n_ho])), (g_node, .inl (k_node, 60, .inl f_node)), (g_girth, .inl (k_girth, 60, .inl f_girth))] H) hP hS ?_
  clear hP hS; intro H locs hP hS
  change va_P (dC, dI) vwCl [(h0, .inr (11, [.ref z_tubes, .ref z_grove, .ref z_season, .ref z_past, .ref z_tank, .ref z_pan, .ref z_cellar, .ref z_coop, .ref z_tape, .ref z_reader, .ref z_facts, .ref z_book, .ref z_spare, .int n_fp])), (z_tubes, .inr (10, [.ref t_to, .ref t_height, .ref t_member, .ref t_lengthHome, .ref t_runs, .ref t_leak, .ref t_vacuum, .ref t_reading, .int n_tb])), (z_grove, .inr (2, [.ref g_node, .ref g_girth, .ref g_gave, .ref g_holeTree, .ref g_holeAngle, .ref g_holeYear, .int n_tr, .int n_ho])), (g_node, .inl (k_node, 60, .inl f_node)), (g_girth, .inl (k_girth, 60, .inl f_girth))] H at hP
  refine lv_aload_n hx hb dX11_tree_0 rfl (lv_at hl 0 rfl) ?_
  refine va_get (D := (dC, dI)) (ci := 11) (v := .ref z_tubes) (C := RX11) (T := TX11) (N := 14) hx hb htb iX11 hown hK hP 0 rfl rfl 0 (Nat.le_of_ble_eq_true rfl) (htb _ m_302) (fun _ h9 => h9) rfl dX11_tree_1 ?_
  refine lv_iload_n hx hb dX11_tree_4 rfl (lv_at hl 1 rfl) ?_
  have hPc := hP.sub (ws' := [(z_tubes, .inr (10, [.ref t_to, .ref t_height, .ref t_member, .ref t_lengthHome, .ref t_runs, .ref t_leak, .ref t_vacuum, .ref t_reading, .int n_tb]))]) [1] rfl
  have hDc := hD.sub (ws' := [(z_tubes, .inr (10, [.ref t_to, .ref t_height, .ref t_member, .ref t_lengthHome, .ref t_runs, .ref t_leak, .ref t_vacuum, .ref t_reading, .int n_tb]))]) [1] (by decide) rfl
  have hKc := hK.sub (tys' := []) [] rfl
  have hFc := va_free (wc := [(z_tubes, .inr (10, [.ref t_to, .ref t_height, .ref t_member, .ref t_lengthHome, .ref t_runs, .ref t_leak, .ref t_vacuum, .ref t_reading, .int n_tb]))]) hD hS hA [1] rfl
  refine va_calli (va_runV (C := RX10) (As := [.int v1]) (rest := []) ⟨hx, hb, hml, hown, htb⟩ (kX10_hasTube l dC dI H.size z_tubes t_to t_height t_member t_lengthHome t_runs t_leak t_vacuum t_reading n_tb v1 ) ⟨callB_of 1 htb (gd_c m_371) rfl rfl rfl (htb _ m_2) (htb _ m_368) hdX10_hasTube ⟨(Nat.le_of_ble_eq_true rfl), (Nat.le_of_ble_eq_true rfl)⟩, htb _ m_369, htb _ m_370⟩ ⟨pcW_blind, va_recv hKc hPc (ci := 10) (q0 := 0) rfl rfl, pcW_at hPc hKc hDc hN⟩ rfl rfl hl.1 rfl (lv_room (Nat.le_of_ble_eq_true rfl)) dX11_tree_5 ⟨(Nat.le_of_ble_eq_true rfl), (Nat.le_of_ble_eq_true rfl)⟩) hS (fun q _ h => hFc q h) hFc (fun r_1 u t H1 locs1 ht hvm h_2 hB hz1 hk1 hS1 => ?_)
  obtain ⟨hP1, hK1, hD1⟩ := hB
  rw [ht] at hP1
  obtain ⟨hPn, hDn⟩ := va_join (wr := [(h0, .inr (11, [.ref z_tubes, .ref z_grove, .ref z_season, .ref z_past, .ref z_tank, .ref z_pan, .ref z_cellar, .ref z_coop, .ref z_tape, .ref z_reader, .ref z_facts, .ref z_book, .ref z_spare, .int n_fp])), (z_grove, .inr (2, [.ref g_node, .ref g_girth, .ref g_gave, .ref g_holeTree, .ref g_holeAngle, .ref g_holeYear, .int n_tr, .int n_ho])), (g_node, .inl (k_node, 60, .inl f_node)), (g_girth, .inl (k_girth, 60, .inl f_girth))]) (w1 := [(z_tubes, .inr (10, [.ref t_to, .ref t_height, .ref t_member, .ref t_lengthHome, .ref t_runs, .ref t_leak, .ref t_vacuum, .ref t_reading, .int n_tb]))]) hP hD [1] [0, 2, 3, 4] rfl rfl (by decide) (by decide) hk1 hFc hP1 hD1
  clear hP1 hD1 hK1
  clear hP hD hS hPc hDc hKc hFc hk1 hz1 ht hvm
  clear t
  revert hS1 hPn hDn; generalize H1 = H; generalize locs1 = locs; intro hS hP hD
  change va_P (dC, dI) vwCl [(h0, .inr (11, [.ref z_tubes, .ref z_grove, .ref z_season, .ref z_past, .ref z_tank, .ref z_pan, .ref z_cellar, .ref z_coop, .ref z_tape, .ref z_reader, .ref z_facts, .ref z_book, .ref z_spare, .int n_fp])), (z_grove, .inr (2, [.ref g_node, .ref g_girth, .ref g_gave, .ref g_holeTree, .ref g_holeAngle, .ref g_holeYear, .int n_tr, .int n_ho])), (g_node, .inl (k_node, 60, .inl f_node)), (g_girth, .inl (k_girth, 60, .inl f_girth)), (z_tubes, .inr (10, [.ref t_to, .ref t_height, .ref t_member, .ref t_lengthHome, .ref t_runs, .ref t_leak, .ref t_vacuum, .ref t_reading, .int n_tb]))] H at hP
  change va_D A [(h0, .inr (11, [.ref z_tubes, .ref z_grove, .ref z_season, .ref z_past, .ref z_tank, .ref z_pan, .ref z_cellar, .ref z_coop, .ref z_tape, .ref z_reader, .ref z_facts, .ref z_book, .ref z_spare, .int n_fp])), (z_grove, .inr (2, [.ref g_node, .ref g_girth, .ref g_gave, .ref g_holeTree, .ref g_holeAngle, .ref g_holeYear, .int n_tr, .int n_ho])), (g_node, .inl (k_node, 60, .inl f_node)), (g_girth, .inl (k_girth, 60, .inl f_girth)), (z_tubes, .inr (10, [.ref t_to, .ref t_height, .ref t_member, .ref t_lengthHome, .ref t_runs, .ref t_leak, .ref t_vacuum, .ref t_reading, .int n_tb]))] at hD
  rcases h_2 with ⟨rfl, h_2⟩ | ⟨rfl, h_2⟩
  · refine lv_if_eq (tgt := 27) hx hb dX11_tree_8 (by decide) (fun c_3 => absurd c_3 (by decide)) ?_
    intro _
    refine lv_iload_n hx hb dX11_tree_11 rfl (lv_at hl 2 rfl) ?_
    refine lv_bipush (v := 30) hx hb dX11_tree_12 (by decide) ?_
    refine lv_sipush (v := 400) hx hb dX11_tree_14 (by decide) ?_
    have hPc := hP.sub (ws' := []) [] rfl
    have hDc := hD.sub (ws' := []) [] (by decide) rfl
    have hKc := hK.sub (tys' := []) [] rfl
    have hFc := va_free (wc := []) hD hS hA [] rfl
    refine va_calli (va_runS (As := [.int v2, .int 30, .int 400]) (rest := []) ⟨hx, hb, hml, hown, htb⟩ (kX11_isWithin l dC dI H.size v2 30 400 ) ⟨callB_of 3 htb (gd_c m_355) rfl rfl rfl (htb _ m_1) (htb _ m_353) hdX11_isWithin ⟨(Nat.le_of_ble_eq_true rfl), (Nat.le_of_ble_eq_true rfl)⟩, htb _ m_354⟩ ⟨pcW_blind, pcW_at hPc hKc hDc hN⟩ rfl rfl hl.1 rfl (lv_room (Nat.le_of_ble_eq_true rfl)) dX11_tree_17 ⟨(Nat.le_of_ble_eq_true rfl), (Nat.le_of_ble_eq_true rfl)⟩) hS (fun q _ h => hFc q h) hFc (fun r_4 u t H1 locs1 ht hvm h_5 hB hz1 hk1 hS1 => ?_)
    obtain ⟨hP1, hK1, hD1⟩ := hB
    rw [ht] at hP1
    obtain ⟨hPn, hDn⟩ := va_join (wr := [(h0, .inr (11, [.ref z_tubes, .ref z_grove, .ref z_season, .ref z_past, .ref z_tank, .ref z_pan, .ref z_cellar, .ref z_coop, .ref z_tape, .ref z_reader, .ref z_facts, .ref z_book, .ref z_spare, .int n_fp])), (z_grove, .inr (2, [.ref g_node, .ref g_girth, .ref g_gave, .ref g_holeTree, .ref g_holeAngle, .ref g_holeYear, .int n_tr, .int n_ho])), (g_node, .inl (k_node, 60, .inl f_node)), (g_girth, .inl (k_girth, 60, .inl f_girth)), (z_tubes, .inr (10, [.ref t_to, .ref t_height, .ref t_member, .ref t_lengthHome, .ref t_runs, .ref t_leak, .ref t_vacuum, .ref t_reading, .int n_tb]))]) (w1 := []) hP hD [] [0, 1, 2, 3, 4] rfl rfl (by decide) (by decide) hk1 hFc hP1 hD1
    clear hP1 hD1 hK1
    clear hP hD hS hPc hDc hKc hFc hk1 hz1 ht hvm
    clear t
    revert hS1 hPn hDn; generalize H1 = H; generalize locs1 = locs; intro hS hP hD
    change va_P (dC, dI) vwCl [(h0, .inr (11, [.ref z_tubes, .ref z_grove, .ref z_season, .ref z_past, .ref z_tank, .ref z_pan, .ref z_cellar, .ref z_coop, .ref z_tape, .ref z_reader, .ref z_facts, .ref z_book, .ref z_spare, .int n_fp])), (z_grove, .inr (2, [.ref g_node, .ref g_girth, .ref g_gave, .ref g_holeTree, .ref g_holeAngle, .ref g_holeYear, .int n_tr, .int n_ho])), (g_node, .inl (k_node, 60, .inl f_node)), (g_girth, .inl (k_girth, 60, .inl f_girth)), (z_tubes, .inr (10, [.ref t_to, .ref t_height, .ref t_member, .ref t_lengthHome, .ref t_runs, .ref t_leak, .ref t_vacuum, .ref t_reading, .int n_tb]))] H at hP
    change va_D A [(h0, .inr (11, [.ref z_tubes, .ref z_grove, .ref z_season, .ref z_past, .ref z_tank, .ref z_pan, .ref z_cellar, .ref z_coop, .ref z_tape, .ref z_reader, .ref z_facts, .ref z_book, .ref z_spare, .int n_fp])), (z_grove, .inr (2, [.ref g_node, .ref g_girth, .ref g_gave, .ref g_holeTree, .ref g_holeAngle, .ref g_holeYear, .int n_tr, .int n_ho])), (g_node, .inl (k_node, 60, .inl f_node)), (g_girth, .inl (k_girth, 60, .inl f_girth)), (z_tubes, .inr (10, [.ref t_to, .ref t_height, .ref t_member, .ref t_lengthHome, .ref t_runs, .ref t_leak, .ref t_vacuum, .ref t_reading, .int n_tb]))] at hD
    rcases h_5 with ⟨rfl, h_5⟩ | ⟨rfl, h_5⟩
    · refine lv_if_eq (tgt := 27) hx hb dX11_tree_20 (by decide) (fun c_6 => absurd c_6 (by decide)) ?_
      intro _
      refine lv_iconst (v := 1) hx hb dX11_tree_23 (by decide) ?_
      refine lv_goto (tgt := 28) hx hb dX11_tree_24 (by decide) ?_
      refine lv_istore_n (lv' := [(3, .int 1), (0, .ref h0), (1, .int v1), (2, .int v2)]) hx hb dX11_tree_28 rfl hl (by decide) rfl ?_
      clear hl; intro ls hl
      refine lv_iload_n hx hb dX11_tree_29 rfl (lv_at hl 0 rfl) ?_
      refine lv_if_eq (tgt := 45) hx hb dX11_tree_30 (by decide) (fun c_7 => absurd c_7 (by decide)) ?_
      intro _
      refine lv_aload_n hx hb dX11_tree_33 rfl (lv_at hl 1 rfl) ?_
      refine va_get (D := (dC, dI)) (ci := 11) (v := .ref z_grove) (C := RX11) (T := TX11) (N := 14) hx hb htb iX11 hown hK hP 0 rfl rfl 1 (Nat.le_of_ble_eq_true rfl) (htb _ m_303) (fun _ h9 => h9) rfl dX11_tree_34 ?_
      refine lv_iload_n hx hb dX11_tree_37 rfl (lv_at hl 2 rfl) ?_
      refine lv_iload_n hx hb dX11_tree_38 rfl (lv_at hl 3 rfl) ?_
      have hPc := hP.sub (ws' := [(z_grove, .inr (2, [.ref g_node, .ref g_girth, .ref g_gave, .ref g_holeTree, .ref g_holeAngle, .ref g_holeYear, .int n_tr, .int n_ho])), (g_node, .inl (k_node, 60, .inl f_node)), (g_girth, .inl (k_girth, 60, .inl f_girth))]) [1, 2, 3] rfl
      have hDc := hD.sub (ws' := [(z_grove, .inr (2, [.ref g_node, .ref g_girth, .ref g_gave, .ref g_holeTree, .ref g_holeAngle, .ref g_holeYear, .int n_tr, .int n_ho])), (g_node, .inl (k_node, 60, .inl f_node)), (g_girth, .inl (k_girth, 60, .inl f_girth))]) [1, 2, 3] (by decide) rfl
      have hKc := hK.sub (tys' := [(k_node, .int), (k_girth, .int)]) [0, 1] rfl
      have hFc := va_free (wc := [(z_grove, .inr (2, [.ref g_node, .ref g_girth, .ref g_gave, .ref g_holeTree, .ref g_holeAngle, .ref g_holeYear, .int n_tr, .int n_ho])), (g_node, .inl (k_node, 60, .inl f_node)), (g_girth, .inl (k_girth, 60, .inl f_girth))]) hD hS hA [1, 2, 3] rfl
      refine va_calli (va_runV (C := RX2) (As := [.int v1, .int v2]) (rest := []) ⟨hx, hb, hml, hown, htb⟩ (kX2_add l dC dI H.size z_grove g_node g_girth g_gave g_holeTree g_holeAngle g_holeYear n_tr n_ho k_node k_girth f_node f_girth v1 v2 yg) ⟨callB_of 2 htb (gd_c m_375) rfl rfl rfl (htb _ m_3) (htb _ m_372) hdX2_add ⟨(Nat.le_of_ble_eq_true rfl), (Nat.le_of_ble_eq_true rfl)⟩, htb _ m_373, htb _ m_374⟩ ⟨pcW_blind, va_recv hKc hPc (ci := 2) (q0 := 0) rfl rfl, pcW_at hPc hKc hDc hN⟩ rfl rfl hl.1 rfl (lv_room (Nat.le_of_ble_eq_true rfl)) dX11_tree_39 ⟨(Nat.le_of_ble_eq_true rfl), (Nat.le_of_ble_eq_true rfl)⟩) hS (fun q _ h => hFc q h) hFc (fun r_8 u t H1 locs1 ht hvm h_9 hB hz1 hk1 hS1 => ?_)
      obtain ⟨w_tr_10, w_node_11, w_girth_12, e_13, hP1, hK1, hD1⟩ := hB
      rw [ht] at hP1
      obtain ⟨hPn, hDn⟩ := va_join (wr := [(h0, .inr (11, [.ref z_tubes, .ref z_grove, .ref z_season, .ref z_past, .ref z_tank, .ref z_pan, .ref z_cellar, .ref z_coop, .ref z_tape, .ref z_reader, .ref z_facts, .ref z_book, .ref z_spare, .int n_fp])), (z_tubes, .inr (10, [.ref t_to, .ref t_height, .ref t_member, .ref t_lengthHome, .ref t_runs, .ref t_leak, .ref t_vacuum, .ref t_reading, .int n_tb]))]) (w1 := [(z_grove, .inr (2, [.ref g_node, .ref g_girth, .ref g_gave, .ref g_holeTree, .ref g_holeAngle, .ref g_holeYear, .int w_tr_10, .int n_ho])), (g_node, .inl (k_node, 60, .inl w_node_11)), (g_girth, .inl (k_girth, 60, .inl w_girth_12))]) hP hD [1, 2, 3] [0, 4] rfl rfl (by decide) (by decide) hk1 hFc hP1 hD1
      clear hP1 hD1 hK1
      clear hP hD hS hPc hDc hKc hFc hk1 hz1 ht hvm
      clear t
      revert hS1 hPn hDn; generalize H1 = H; generalize locs1 = locs; intro hS hP hD
      change va_P (dC, dI) vwCl [(h0, .inr (11, [.ref z_tubes, .ref z_grove, .ref z_season, .ref z_past, .ref z_tank, .ref z_pan, .ref z_cellar, .ref z_coop, .ref z_tape, .ref z_reader, .ref z_facts, .ref z_book, .ref z_spare, .int n_fp])), (z_tubes, .inr (10, [.ref t_to, .ref t_height, .ref t_member, .ref t_lengthHome, .ref t_runs, .ref t_leak, .ref t_vacuum, .ref t_reading, .int n_tb])), (z_grove, .inr (2, [.ref g_node, .ref g_girth, .ref g_gave, .ref g_holeTree, .ref g_holeAngle, .ref g_holeYear, .int w_tr_10, .int n_ho])), (g_node, .inl (k_node, 60, .inl w_node_11)), (g_girth, .inl (k_girth, 60, .inl w_girth_12))] H at hP
      change va_D A [(h0, .inr (11, [.ref z_tubes, .ref z_grove, .ref z_season, .ref z_past, .ref z_tank, .ref z_pan, .ref z_cellar, .ref z_coop, .ref z_tape, .ref z_reader, .ref z_facts, .ref z_book, .ref z_spare, .int n_fp])), (z_tubes, .inr (10, [.ref t_to, .ref t_height, .ref t_member, .ref t_lengthHome, .ref t_runs, .ref t_leak, .ref t_vacuum, .ref t_reading, .int n_tb])), (z_grove, .inr (2, [.ref g_node, .ref g_girth, .ref g_gave, .ref g_holeTree, .ref g_holeAngle, .ref g_holeYear, .int w_tr_10, .int n_ho])), (g_node, .inl (k_node, 60, .inl w_node_11)), (g_girth, .inl (k_girth, 60, .inl w_girth_12))] at hD
      refine lv_goto (tgt := 46) hx hb dX11_tree_42 (by decide) ?_
      refine W.widen (k := 0) (n := 0) (Nat.le_of_ble_eq_true rfl) (Nat.le_of_ble_eq_true rfl) ?_
      have hP9 := hP.sub (ws' := [(h0, .inr (11, [.ref z_tubes, .ref z_grove, .ref z_season, .ref z_past, .ref z_tank, .ref z_pan, .ref z_cellar, .ref z_coop, .ref z_tape, .ref z_reader, .ref z_facts, .ref z_book, .ref z_spare, .int n_fp])), (z_tubes, .inr (10, [.ref t_to, .ref t_height, .ref t_member, .ref t_lengthHome, .ref t_runs, .ref t_leak, .ref t_vacuum, .ref t_reading, .int n_tb])), (z_grove, .inr (2, [.ref g_node, .ref g_girth, .ref g_gave, .ref g_holeTree, .ref g_holeAngle, .ref g_holeYear, .int w_tr_10, .int n_ho])), (g_node, .inl (k_node, 60, .inl w_node_11)), (g_girth, .inl (k_girth, 60, .inl w_girth_12))]) [0, 1, 2, 3, 4] rfl
      have hD9 := hD.sub (ws' := [(h0, .inr (11, [.ref z_tubes, .ref z_grove, .ref z_season, .ref z_past, .ref z_tank, .ref z_pan, .ref z_cellar, .ref z_coop, .ref z_tape, .ref z_reader, .ref z_facts, .ref z_book, .ref z_spare, .int n_fp])), (z_tubes, .inr (10, [.ref t_to, .ref t_height, .ref t_member, .ref t_lengthHome, .ref t_runs, .ref t_leak, .ref t_vacuum, .ref t_reading, .int n_tb])), (z_grove, .inr (2, [.ref g_node, .ref g_girth, .ref g_gave, .ref g_holeTree, .ref g_holeAngle, .ref g_holeYear, .int w_tr_10, .int n_ho])), (g_node, .inl (k_node, 60, .inl w_node_11)), (g_girth, .inl (k_girth, 60, .inl w_girth_12))]) [0, 1, 2, 3, 4] (by decide) rfl
      have hK9 := hK.sub (tys' := []) [] rfl
      exact W.iret (v := r_8) hx hb hr (fun t ht hW => ⟨⟨r_8, (), rfl, (lg_X11_tree_1 n_tb n_tr n_ho v1 v2 w_tr_10 r_8 yg h_2 h_5 e_13 h_9), ⟨w_tr_10, w_node_11, w_girth_12, (lg_X11_tree_0 n_tb n_tr n_ho v1 v2 w_tr_10 r_8 yg h_2 h_5 e_13 h_9), by rw [ht]; exact hP9, va_K.moved hW.alike hK9, hD9⟩⟩, hS.F ht⟩) hS.2.2 dX11_tree_46
    · refine lv_if_eq (tgt := 27) hx hb dX11_tree_20 (by decide) ?_ (fun c_14 => absurd (by decide) c_14)
      intro _
      refine lv_iconst (v := 0) hx hb dX11_tree_27 (by decide) ?_
      refine lv_istore_n (lv' := [(3, .int 0), (0, .ref h0), (1, .int v1), (2, .int v2)]) hx hb dX11_tree_28 rfl hl (by decide) rfl ?_
      clear hl; intro ls hl
      refine lv_iload_n hx hb dX11_tree_29 rfl (lv_at hl 0 rfl) ?_
      refine lv_if_eq (tgt := 45) hx hb dX11_tree_30 (by decide) ?_ (fun c_15 => absurd (by decide) c_15)
      intro _
      refine lv_iconst (v := (-1)) hx hb dX11_tree_45 (by decide) ?_
      refine W.widen (k := 0) (n := 0) (Nat.le_of_ble_eq_true rfl) (Nat.le_of_ble_eq_true rfl) ?_
      have hP9 := hP.sub (ws' := [(h0, .inr (11, [.ref z_tubes, .ref z_grove, .ref z_season, .ref z_past, .ref z_tank, .ref z_pan, .ref z_cellar, .ref z_coop, .ref z_tape, .ref z_reader, .ref z_facts, .ref z_book, .ref z_spare, .int n_fp])), (z_tubes, .inr (10, [.ref t_to, .ref t_height, .ref t_member, .ref t_lengthHome, .ref t_runs, .ref t_leak, .ref t_vacuum, .ref t_reading, .int n_tb])), (z_grove, .inr (2, [.ref g_node, .ref g_girth, .ref g_gave, .ref g_holeTree, .ref g_holeAngle, .ref g_holeYear, .int n_tr, .int n_ho])), (g_node, .inl (k_node, 60, .inl f_node)), (g_girth, .inl (k_girth, 60, .inl f_girth))]) [0, 4, 1, 2, 3] rfl
      have hD9 := hD.sub (ws' := [(h0, .inr (11, [.ref z_tubes, .ref z_grove, .ref z_season, .ref z_past, .ref z_tank, .ref z_pan, .ref z_cellar, .ref z_coop, .ref z_tape, .ref z_reader, .ref z_facts, .ref z_book, .ref z_spare, .int n_fp])), (z_tubes, .inr (10, [.ref t_to, .ref t_height, .ref t_member, .ref t_lengthHome, .ref t_runs, .ref t_leak, .ref t_vacuum, .ref t_reading, .int n_tb])), (z_grove, .inr (2, [.ref g_node, .ref g_girth, .ref g_gave, .ref g_holeTree, .ref g_holeAngle, .ref g_holeYear, .int n_tr, .int n_ho])), (g_node, .inl (k_node, 60, .inl f_node)), (g_girth, .inl (k_girth, 60, .inl f_girth))]) [0, 4, 1, 2, 3] (by decide) rfl
      have hK9 := hK.sub (tys' := []) [] rfl
      exact W.iret (v := (-1)) hx hb hr (fun t ht hW => ⟨⟨(-1), (), rfl, (lg_X11_tree_3 n_tb n_tr n_ho v1 v2 yg h_2 h_5), ⟨n_tr, f_node, f_girth, (lg_X11_tree_2 n_tb n_tr n_ho v1 v2 yg h_2 h_5), by rw [ht]; exact hP9, va_K.moved hW.alike hK9, hD9⟩⟩, hS.F ht⟩) hS.2.2 dX11_tree_46
  · refine lv_if_eq (tgt := 27) hx hb dX11_tree_8 (by decide) ?_ (fun c_16 => absurd (by decide) c_16)
    intro _
    refine lv_iconst (v := 0) hx hb dX11_tree_27 (by decide) ?_
    refine lv_istore_n (lv' := [(3, .int 0), (0, .ref h0), (1, .int v1), (2, .int v2)]) hx hb dX11_tree_28 rfl hl (by decide) rfl ?_
    clear hl; intro ls hl
    refine lv_iload_n hx hb dX11_tree_29 rfl (lv_at hl 0 rfl) ?_
    refine lv_if_eq (tgt := 45) hx hb dX11_tree_30 (by decide) ?_ (fun c_17 => absurd (by decide) c_17)
    intro _
    refine lv_iconst (v := (-1)) hx hb dX11_tree_45 (by decide) ?_
    refine W.widen (k := 0) (n := 0) (Nat.le_of_ble_eq_true rfl) (Nat.le_of_ble_eq_true rfl) ?_
    have hP9 := hP.sub (ws' := [(h0, .inr (11, [.ref z_tubes, .ref z_grove, .ref z_season, .ref z_past, .ref z_tank, .ref z_pan, .ref z_cellar, .ref z_coop, .ref z_tape, .ref z_reader, .ref z_facts, .ref z_book, .ref z_spare, .int n_fp])), (z_tubes, .inr (10, [.ref t_to, .ref t_height, .ref t_member, .ref t_lengthHome, .ref t_runs, .ref t_leak, .ref t_vacuum, .ref t_reading, .int n_tb])), (z_grove, .inr (2, [.ref g_node, .ref g_girth, .ref g_gave, .ref g_holeTree, .ref g_holeAngle, .ref g_holeYear, .int n_tr, .int n_ho])), (g_node, .inl (k_node, 60, .inl f_node)), (g_girth, .inl (k_girth, 60, .inl f_girth))]) [0, 4, 1, 2, 3] rfl
    have hD9 := hD.sub (ws' := [(h0, .inr (11, [.ref z_tubes, .ref z_grove, .ref z_season, .ref z_past, .ref z_tank, .ref z_pan, .ref z_cellar, .ref z_coop, .ref z_tape, .ref z_reader, .ref z_facts, .ref z_book, .ref z_spare, .int n_fp])), (z_tubes, .inr (10, [.ref t_to, .ref t_height, .ref t_member, .ref t_lengthHome, .ref t_runs, .ref t_leak, .ref t_vacuum, .ref t_reading, .int n_tb])), (z_grove, .inr (2, [.ref g_node, .ref g_girth, .ref g_gave, .ref g_holeTree, .ref g_holeAngle, .ref g_holeYear, .int n_tr, .int n_ho])), (g_node, .inl (k_node, 60, .inl f_node)), (g_girth, .inl (k_girth, 60, .inl f_girth))]) [0, 4, 1, 2, 3] (by decide) rfl
    have hK9 := hK.sub (tys' := []) [] rfl
    exact W.iret (v := (-1)) hx hb hr (fun t ht hW => ⟨⟨(-1), (), rfl, (lg_X11_tree_5 n_tb n_tr n_ho v1 yg h_2), ⟨n_tr, f_node, f_girth, (lg_X11_tree_4 n_tb n_tr n_ho v1 yg h_2), by rw [ht]; exact hP9, va_K.moved hW.alike hK9, hD9⟩⟩, hS.F ht⟩) hS.2.2 dX11_tree_46

theorem lg_X11_pump_0 (n_tb : Int32) (v1 : Int32) (yb : 1 ≤ n_tb.toInt ∧ n_tb.toInt ≤ 40) (h_2 : (0 : Int) ≤ v1.toInt ∧ v1.toInt ≤ (100 : Int)) : 0 ≤ v1.toInt ∧ v1.toInt ≤ 100 := by
  have := rg_rng n_tb; have := rg_rng v1; omega
theorem lg_X11_pump_1 (n_tb : Int32) (v1 : Int32) (yb : 1 ≤ n_tb.toInt ∧ n_tb.toInt ≤ 40) (h_2 : ¬ ((0 : Int) ≤ v1.toInt ∧ v1.toInt ≤ (100 : Int))) : ¬ (0 ≤ v1.toInt ∧ v1.toInt ≤ 100) := by
  have := rg_rng n_tb; have := rg_rng v1; omega
set_option maxHeartbeats 4000000 in
set_option maxRecDepth 100000 in
theorem kX11_pump (l : Launch) (dC : Nat → ClassId) (dI : Nat → Nat → Nat) (sz : Nat) (h0 : Nat) (z_tubes : Nat) (z_grove : Nat) (z_season : Nat) (z_past : Nat) (z_tank : Nat) (z_pan : Nat) (z_cellar : Nat) (z_coop : Nat) (z_tape : Nat) (z_reader : Nat) (z_facts : Nat) (z_book : Nat) (z_spare : Nat) (n_fp : Int32) (t_to : Nat) (t_height : Nat) (t_member : Nat) (t_lengthHome : Nat) (t_runs : Nat) (t_leak : Nat) (t_vacuum : Nat) (t_reading : Nat) (n_tb : Int32) (k_to : ClassId) (k_leak : ClassId) (k_vacuum : ClassId) (f_to : Nat → Int32) (f_leak : Nat → Int32) (f_vacuum : Nat → Int32) (v1 : Int32) (yb : 1 ≤ n_tb.toInt ∧ n_tb.toInt ≤ 40) (yvac : Rg f_vacuum 40 0 100) (ylk : Rg f_leak 40 0 20) : Met l yX11_pump (Cond.code yX11_pump cX11_pump 2 (some .boolean) :: bg) ({ frames := 4, cells := 0, slots := 0, locals := 84 }) (pcW dC dI [.ref h0, .int v1] sz [(h0, .inr (11, [.ref z_tubes, .ref z_grove, .ref z_season, .ref z_past, .ref z_tank, .ref z_pan, .ref z_cellar, .ref z_coop, .ref z_tape, .ref z_reader, .ref z_facts, .ref z_book, .ref z_spare, .int n_fp])), (z_tubes, .inr (10, [.ref t_to, .ref t_height, .ref t_member, .ref t_lengthHome, .ref t_runs, .ref t_leak, .ref t_vacuum, .ref t_reading, .int n_tb])), (t_to, .inl (k_to, 40, .inl f_to)), (t_leak, .inl (k_leak, 40, .inl f_leak)), (t_vacuum, .inl (k_vacuum, 40, .inl f_vacuum))] [(k_to, .int), (k_leak, .int), (k_vacuum, .int)]) (va_Qi (fun (r : Int32) (u : Unit) => (r = 1 ∧ 0 ≤ v1.toInt ∧ v1.toInt ≤ 100) ∨ (r = 0 ∧ ¬ (0 ≤ v1.toInt ∧ v1.toInt ≤ 100))) (fun (u : Unit) (t : State) => ∃ (w_vacuum : Nat → Int32), Rg w_vacuum 40 0 100 ∧ va_P (dC, dI) vwCl [(h0, .inr (11, [.ref z_tubes, .ref z_grove, .ref z_season, .ref z_past, .ref z_tank, .ref z_pan, .ref z_cellar, .ref z_coop, .ref z_tape, .ref z_reader, .ref z_facts, .ref z_book, .ref z_spare, .int n_fp])), (z_tubes, .inr (10, [.ref t_to, .ref t_height, .ref t_member, .ref t_lengthHome, .ref t_runs, .ref t_leak, .ref t_vacuum, .ref t_reading, .int n_tb])), (t_to, .inl (k_to, 40, .inl f_to)), (t_leak, .inl (k_leak, 40, .inl f_leak)), (t_vacuum, .inl (k_vacuum, 40, .inl w_vacuum))] t.heap ∧ va_K (dC, dI) vwCl [] t ∧ va_D (va_A [(h0, .inr (11, [.ref z_tubes, .ref z_grove, .ref z_season, .ref z_past, .ref z_tank, .ref z_pan, .ref z_cellar, .ref z_coop, .ref z_tape, .ref z_reader, .ref z_facts, .ref z_book, .ref z_spare, .int n_fp])), (z_tubes, .inr (10, [.ref t_to, .ref t_height, .ref t_member, .ref t_lengthHome, .ref t_runs, .ref t_leak, .ref t_vacuum, .ref t_reading, .int n_tb])), (t_to, .inl (k_to, 40, .inl f_to)), (t_leak, .inl (k_leak, 40, .inl f_leak)), (t_vacuum, .inl (k_vacuum, 40, .inl f_vacuum))] sz) [(h0, .inr (11, [.ref z_tubes, .ref z_grove, .ref z_season, .ref z_past, .ref z_tank, .ref z_pan, .ref z_cellar, .ref z_coop, .ref z_tape, .ref z_reader, .ref z_facts, .ref z_book, .ref z_spare, .int n_fp])), (z_tubes, .inr (10, [.ref t_to, .ref t_height, .ref t_member, .ref t_lengthHome, .ref t_runs, .ref t_leak, .ref t_vacuum, .ref t_reading, .int n_tb])), (t_to, .inl (k_to, 40, .inl f_to)), (t_leak, .inl (k_leak, 40, .inl f_leak)), (t_vacuum, .inl (k_vacuum, 40, .inl w_vacuum))]) (va_A [(h0, .inr (11, [.ref z_tubes, .ref z_grove, .ref z_season, .ref z_past, .ref z_tank, .ref z_pan, .ref z_cellar, .ref z_coop, .ref z_tape, .ref z_reader, .ref z_facts, .ref z_book, .ref z_spare, .int n_fp])), (z_tubes, .inr (10, [.ref t_to, .ref t_height, .ref t_member, .ref t_lengthHome, .ref t_runs, .ref t_leak, .ref t_vacuum, .ref t_reading, .int n_tb])), (t_to, .inl (k_to, 40, .inl f_to)), (t_leak, .inl (k_leak, 40, .inl f_leak)), (t_vacuum, .inl (k_vacuum, 40, .inl f_vacuum))] sz)) 0 0 (va_A [(h0, .inr (11, [.ref z_tubes, .ref z_grove, .ref z_season, .ref z_past, .ref z_tank, .ref z_pan, .ref z_cellar, .ref z_coop, .ref z_tape, .ref z_reader, .ref z_facts, .ref z_book, .ref z_spare, .int n_fp])), (z_tubes, .inr (10, [.ref t_to, .ref t_height, .ref t_member, .ref t_lengthHome, .ref t_runs, .ref t_leak, .ref t_vacuum, .ref t_reading, .int n_tb])), (t_to, .inl (k_to, 40, .inl f_to)), (t_leak, .inl (k_leak, 40, .inl f_leak)), (t_vacuum, .inl (k_vacuum, 40, .inl f_vacuum))] sz) := by
  refine Met.ofW (cc := cX11_pump) (maxL := 2) (ret := (some .boolean)) pnX11 rfl ?_
  intro p e s m args below meth c s₁ B hml hv
  obtain ⟨rfl, hsz, hP, hK, hD0, hN⟩ := hv
  have hx := B.exec
  have hb := B.bytes
  have hr := B.returns
  have htb : ∀ w ∈ bg, w.before [.ref h0, .int v1].toArray s = true := fun w h => atoms_spec (ws := Cond.code yX11_pump cX11_pump 2 (some .boolean) :: bg) B.pre w (List.mem_cons_of_mem _ h)
  have hown : s.vm.findClass RX11 = some m.cls := findClass_of_methodNamed B.named
  have hlocks := B.notSynchronized
  subst hsz
  have hD := hD0.self (sz := s.heap.size)
  generalize hAe : va_A [(h0, .inr (11, [.ref z_tubes, .ref z_grove, .ref z_season, .ref z_past, .ref z_tank, .ref z_pan, .ref z_cellar, .ref z_coop, .ref z_tape, .ref z_reader, .ref z_facts, .ref z_book, .ref z_spare, .int n_fp])), (z_tubes, .inr (10, [.ref t_to, .ref t_height, .ref t_member, .ref t_lengthHome, .ref t_runs, .ref t_leak, .ref t_vacuum, .ref t_reading, .int n_tb])), (t_to, .inl (k_to, 40, .inl f_to)), (t_leak, .inl (k_leak, 40, .inl f_leak)), (t_vacuum, .inl (k_vacuum, 40, .inl f_vacuum))] s.heap.size = A at hD ⊢
  have hA : ∀ q : Nat, s.heap.size ≤ q → A q := fun q h => by rw [← hAe]; exact Or.inr h
  have hS : va_S A s.heap s.heap [] := va_S.rf
  have hl := lv_entry ([.ref h0, .int v1]) (n := 2) (Nat.le_of_ble_eq_true rfl)
  rw [lg_entry_eq]
  generalize (lg_sl ([.ref h0, .int v1]) ++ List.replicate (2 - (lg_sl ([.ref h0, .int v1])).length) Slot.unset).toArray = ls at hl ⊢
  change lv_has ls 2 [(0, .ref h0), (1, .int v1)] at hl
  clear hD0 hAe
  refine go0 (wsP := fun H => va_P (dC, dI) vwCl [(h0, .inr (11, [.ref z_tubes, .ref z_grove, .ref z_season, .ref z_past, .ref z_tank, .ref z_pan, .ref z_cellar, .ref z_coop, .ref z_tape, .ref z_reader, .ref z_facts, .ref z_book, .ref z_spare, .int n_fp])), (z_tubes, .inr (10, [.ref t_to, .ref t_height, .ref t_member, .ref t_lengthHome, .ref t_runs, .ref t_leak, .ref t_vacuum, .ref t_reading, .int n_tb])), (t_to, .inl (k_to, 40, .inl f_to)), (t_leak, .inl (k_leak, 40, .inl f_leak)), (t_vacuum, .inl (k_vacuum, 40, .inl f_vacuum))] H) hP hS ?_
  clear hP hS; intro H locs hP hS
  change va_P (dC, dI) vwCl [(h0, .inr (11, [.ref z_tubes, .ref z_grove, .ref z_season, .ref z_past, .ref z_tank, .ref z_pan, .ref z_cellar, .ref z_coop, .ref z_tape, .ref z_reader, .ref z_facts, .ref z_book, .ref z_spare, .int n_fp])), (z_tubes, .inr (10, [.ref t_to, .ref t_height, .ref t_member, .ref t_lengthHome, .ref t_runs, .ref t_leak, .ref t_vacuum, .ref t_reading, .int n_tb])), (t_to, .inl (k_to, 40, .inl f_to)), (t_leak, .inl (k_leak, 40, .inl f_leak)), (t_vacuum, .inl (k_vacuum, 40, .inl f_vacuum))] H at hP
  refine lv_iload_n hx hb dX11_pump_0 rfl (lv_at hl 1 rfl) ?_
  refine lv_iconst (v := 0) hx hb dX11_pump_1 (by decide) ?_
  refine lv_bipush (v := 100) hx hb dX11_pump_2 (by decide) ?_
  have hPc := hP.sub (ws' := []) [] rfl
  have hDc := hD.sub (ws' := []) [] (by decide) rfl
  have hKc := hK.sub (tys' := []) [] rfl
  have hFc := va_free (wc := []) hD hS hA [] rfl
  refine va_calli (va_runS (As := [.int v1, .int 0, .int 100]) (rest := []) ⟨hx, hb, hml, hown, htb⟩ (kX11_isWithin l dC dI H.size v1 0 100 ) ⟨callB_of 3 htb (gd_c m_355) rfl rfl rfl (htb _ m_1) (htb _ m_353) hdX11_isWithin ⟨(Nat.le_of_ble_eq_true rfl), (Nat.le_of_ble_eq_true rfl)⟩, htb _ m_354⟩ ⟨pcW_blind, pcW_at hPc hKc hDc hN⟩ rfl rfl hl.1 rfl (lv_room (Nat.le_of_ble_eq_true rfl)) dX11_pump_4 ⟨(Nat.le_of_ble_eq_true rfl), (Nat.le_of_ble_eq_true rfl)⟩) hS (fun q _ h => hFc q h) hFc (fun r_1 u t H1 locs1 ht hvm h_2 hB hz1 hk1 hS1 => ?_)
  obtain ⟨hP1, hK1, hD1⟩ := hB
  rw [ht] at hP1
  obtain ⟨hPn, hDn⟩ := va_join (wr := [(h0, .inr (11, [.ref z_tubes, .ref z_grove, .ref z_season, .ref z_past, .ref z_tank, .ref z_pan, .ref z_cellar, .ref z_coop, .ref z_tape, .ref z_reader, .ref z_facts, .ref z_book, .ref z_spare, .int n_fp])), (z_tubes, .inr (10, [.ref t_to, .ref t_height, .ref t_member, .ref t_lengthHome, .ref t_runs, .ref t_leak, .ref t_vacuum, .ref t_reading, .int n_tb])), (t_to, .inl (k_to, 40, .inl f_to)), (t_leak, .inl (k_leak, 40, .inl f_leak)), (t_vacuum, .inl (k_vacuum, 40, .inl f_vacuum))]) (w1 := []) hP hD [] [0, 1, 2, 3, 4] rfl rfl (by decide) (by decide) hk1 hFc hP1 hD1
  clear hP1 hD1 hK1
  clear hP hD hS hPc hDc hKc hFc hk1 hz1 ht hvm
  clear t
  revert hS1 hPn hDn; generalize H1 = H; generalize locs1 = locs; intro hS hP hD
  change va_P (dC, dI) vwCl [(h0, .inr (11, [.ref z_tubes, .ref z_grove, .ref z_season, .ref z_past, .ref z_tank, .ref z_pan, .ref z_cellar, .ref z_coop, .ref z_tape, .ref z_reader, .ref z_facts, .ref z_book, .ref z_spare, .int n_fp])), (z_tubes, .inr (10, [.ref t_to, .ref t_height, .ref t_member, .ref t_lengthHome, .ref t_runs, .ref t_leak, .ref t_vacuum, .ref t_reading, .int n_tb])), (t_to, .inl (k_to, 40, .inl f_to)), (t_leak, .inl (k_leak, 40, .inl f_leak)), (t_vacuum, .inl (k_vacuum, 40, .inl f_vacuum))] H at hP
  change va_D A [(h0, .inr (11, [.ref z_tubes, .ref z_grove, .ref z_season, .ref z_past, .ref z_tank, .ref z_pan, .ref z_cellar, .ref z_coop, .ref z_tape, .ref z_reader, .ref z_facts, .ref z_book, .ref z_spare, .int n_fp])), (z_tubes, .inr (10, [.ref t_to, .ref t_height, .ref t_member, .ref t_lengthHome, .ref t_runs, .ref t_leak, .ref t_vacuum, .ref t_reading, .int n_tb])), (t_to, .inl (k_to, 40, .inl f_to)), (t_leak, .inl (k_leak, 40, .inl f_leak)), (t_vacuum, .inl (k_vacuum, 40, .inl f_vacuum))] at hD
  rcases h_2 with ⟨rfl, h_2⟩ | ⟨rfl, h_2⟩
  · refine lv_if_ne (tgt := 12) hx hb dX11_pump_7 (by decide) ?_ (fun c_3 => absurd c_3 (by decide))
    intro _
    refine lv_aload_n hx hb dX11_pump_12 rfl (lv_at hl 0 rfl) ?_
    refine va_get (D := (dC, dI)) (ci := 11) (v := .ref z_tubes) (C := RX11) (T := TX11) (N := 14) hx hb htb iX11 hown hK hP 0 rfl rfl 0 (Nat.le_of_ble_eq_true rfl) (htb _ m_302) (fun _ h9 => h9) rfl dX11_pump_13 ?_
    refine lv_iload_n hx hb dX11_pump_16 rfl (lv_at hl 1 rfl) ?_
    have hPc := hP.sub (ws' := [(z_tubes, .inr (10, [.ref t_to, .ref t_height, .ref t_member, .ref t_lengthHome, .ref t_runs, .ref t_leak, .ref t_vacuum, .ref t_reading, .int n_tb])), (t_to, .inl (k_to, 40, .inl f_to)), (t_leak, .inl (k_leak, 40, .inl f_leak)), (t_vacuum, .inl (k_vacuum, 40, .inl f_vacuum))]) [1, 2, 3, 4] rfl
    have hDc := hD.sub (ws' := [(z_tubes, .inr (10, [.ref t_to, .ref t_height, .ref t_member, .ref t_lengthHome, .ref t_runs, .ref t_leak, .ref t_vacuum, .ref t_reading, .int n_tb])), (t_to, .inl (k_to, 40, .inl f_to)), (t_leak, .inl (k_leak, 40, .inl f_leak)), (t_vacuum, .inl (k_vacuum, 40, .inl f_vacuum))]) [1, 2, 3, 4] (by decide) rfl
    have hKc := hK.sub (tys' := [(k_to, .int), (k_leak, .int), (k_vacuum, .int)]) [0, 1, 2] rfl
    have hFc := va_free (wc := [(z_tubes, .inr (10, [.ref t_to, .ref t_height, .ref t_member, .ref t_lengthHome, .ref t_runs, .ref t_leak, .ref t_vacuum, .ref t_reading, .int n_tb])), (t_to, .inl (k_to, 40, .inl f_to)), (t_leak, .inl (k_leak, 40, .inl f_leak)), (t_vacuum, .inl (k_vacuum, 40, .inl f_vacuum))]) hD hS hA [1, 2, 3, 4] rfl
    refine va_callv (va_runV (C := RX10) (As := [.int v1]) (rest := []) ⟨hx, hb, hml, hown, htb⟩ (kX10_setHouseVacuum l dC dI H.size z_tubes t_to t_height t_member t_lengthHome t_runs t_leak t_vacuum t_reading n_tb k_to k_leak k_vacuum f_to f_leak f_vacuum v1 yb yvac ylk (lg_X11_pump_0 n_tb v1 yb h_2)) ⟨callB_of 1 htb (gd_c m_445) rfl rfl rfl (htb _ m_2) (htb _ m_442) hdX10_setHouseVacuum ⟨(Nat.le_of_ble_eq_true rfl), (Nat.le_of_ble_eq_true rfl)⟩, htb _ m_443, htb _ m_444⟩ ⟨pcW_blind, va_recv hKc hPc (ci := 10) (q0 := 0) rfl rfl, pcW_at hPc hKc hDc hN⟩ rfl rfl hl.1 rfl (lv_room (Nat.le_of_ble_eq_true rfl)) dX11_pump_17 ⟨(Nat.le_of_ble_eq_true rfl), (Nat.le_of_ble_eq_true rfl)⟩) hS (fun q _ h => hFc q h) hFc (fun u t H1 locs1 ht hvm h_5 hB hz1 hk1 hS1 => ?_)
    obtain ⟨w_vacuum_6, e_7, hP1, hK1, hD1⟩ := hB
    rw [ht] at hP1
    obtain ⟨hPn, hDn⟩ := va_join (wr := [(h0, .inr (11, [.ref z_tubes, .ref z_grove, .ref z_season, .ref z_past, .ref z_tank, .ref z_pan, .ref z_cellar, .ref z_coop, .ref z_tape, .ref z_reader, .ref z_facts, .ref z_book, .ref z_spare, .int n_fp]))]) (w1 := [(z_tubes, .inr (10, [.ref t_to, .ref t_height, .ref t_member, .ref t_lengthHome, .ref t_runs, .ref t_leak, .ref t_vacuum, .ref t_reading, .int n_tb])), (t_to, .inl (k_to, 40, .inl f_to)), (t_leak, .inl (k_leak, 40, .inl f_leak)), (t_vacuum, .inl (k_vacuum, 40, .inl w_vacuum_6))]) hP hD [1, 2, 3, 4] [0] rfl rfl (by decide) (by decide) hk1 hFc hP1 hD1
    clear hP1 hD1 hK1
    clear hP hD hS hPc hDc hKc hFc hk1 hz1 ht hvm
    clear t
    revert hS1 hPn hDn; generalize H1 = H; generalize locs1 = locs; intro hS hP hD
    change va_P (dC, dI) vwCl [(h0, .inr (11, [.ref z_tubes, .ref z_grove, .ref z_season, .ref z_past, .ref z_tank, .ref z_pan, .ref z_cellar, .ref z_coop, .ref z_tape, .ref z_reader, .ref z_facts, .ref z_book, .ref z_spare, .int n_fp])), (z_tubes, .inr (10, [.ref t_to, .ref t_height, .ref t_member, .ref t_lengthHome, .ref t_runs, .ref t_leak, .ref t_vacuum, .ref t_reading, .int n_tb])), (t_to, .inl (k_to, 40, .inl f_to)), (t_leak, .inl (k_leak, 40, .inl f_leak)), (t_vacuum, .inl (k_vacuum, 40, .inl w_vacuum_6))] H at hP
    change va_D A [(h0, .inr (11, [.ref z_tubes, .ref z_grove, .ref z_season, .ref z_past, .ref z_tank, .ref z_pan, .ref z_cellar, .ref z_coop, .ref z_tape, .ref z_reader, .ref z_facts, .ref z_book, .ref z_spare, .int n_fp])), (z_tubes, .inr (10, [.ref t_to, .ref t_height, .ref t_member, .ref t_lengthHome, .ref t_runs, .ref t_leak, .ref t_vacuum, .ref t_reading, .int n_tb])), (t_to, .inl (k_to, 40, .inl f_to)), (t_leak, .inl (k_leak, 40, .inl f_leak)), (t_vacuum, .inl (k_vacuum, 40, .inl w_vacuum_6))] at hD
    refine lv_iconst (v := 1) hx hb dX11_pump_20 (by decide) ?_
    refine W.widen (k := 0) (n := 0) (Nat.le_of_ble_eq_true rfl) (Nat.le_of_ble_eq_true rfl) ?_
    have hP9 := hP.sub (ws' := [(h0, .inr (11, [.ref z_tubes, .ref z_grove, .ref z_season, .ref z_past, .ref z_tank, .ref z_pan, .ref z_cellar, .ref z_coop, .ref z_tape, .ref z_reader, .ref z_facts, .ref z_book, .ref z_spare, .int n_fp])), (z_tubes, .inr (10, [.ref t_to, .ref t_height, .ref t_member, .ref t_lengthHome, .ref t_runs, .ref t_leak, .ref t_vacuum, .ref t_reading, .int n_tb])), (t_to, .inl (k_to, 40, .inl f_to)), (t_leak, .inl (k_leak, 40, .inl f_leak)), (t_vacuum, .inl (k_vacuum, 40, .inl w_vacuum_6))]) [0, 1, 2, 3, 4] rfl
    have hD9 := hD.sub (ws' := [(h0, .inr (11, [.ref z_tubes, .ref z_grove, .ref z_season, .ref z_past, .ref z_tank, .ref z_pan, .ref z_cellar, .ref z_coop, .ref z_tape, .ref z_reader, .ref z_facts, .ref z_book, .ref z_spare, .int n_fp])), (z_tubes, .inr (10, [.ref t_to, .ref t_height, .ref t_member, .ref t_lengthHome, .ref t_runs, .ref t_leak, .ref t_vacuum, .ref t_reading, .int n_tb])), (t_to, .inl (k_to, 40, .inl f_to)), (t_leak, .inl (k_leak, 40, .inl f_leak)), (t_vacuum, .inl (k_vacuum, 40, .inl w_vacuum_6))]) [0, 1, 2, 3, 4] (by decide) rfl
    have hK9 := hK.sub (tys' := []) [] rfl
    exact W.zret (ty := .boolean) (v := 1) hx hb hr rfl (fun t ht hW => ⟨⟨1, (), rfl, (Or.inl ⟨rfl, (lg_X11_pump_0 n_tb v1 yb h_2)⟩), ⟨w_vacuum_6, e_7, by rw [ht]; exact hP9, va_K.moved hW.alike hK9, hD9⟩⟩, hS.F ht⟩) hS.2.2 dX11_pump_21
  · refine lv_if_ne (tgt := 12) hx hb dX11_pump_7 (by decide) (fun c_8 => absurd (by decide) c_8) ?_
    intro _
    refine lv_iconst (v := 0) hx hb dX11_pump_10 (by decide) ?_
    refine W.widen (k := 0) (n := 0) (Nat.le_of_ble_eq_true rfl) (Nat.le_of_ble_eq_true rfl) ?_
    have hP9 := hP.sub (ws' := [(h0, .inr (11, [.ref z_tubes, .ref z_grove, .ref z_season, .ref z_past, .ref z_tank, .ref z_pan, .ref z_cellar, .ref z_coop, .ref z_tape, .ref z_reader, .ref z_facts, .ref z_book, .ref z_spare, .int n_fp])), (z_tubes, .inr (10, [.ref t_to, .ref t_height, .ref t_member, .ref t_lengthHome, .ref t_runs, .ref t_leak, .ref t_vacuum, .ref t_reading, .int n_tb])), (t_to, .inl (k_to, 40, .inl f_to)), (t_leak, .inl (k_leak, 40, .inl f_leak)), (t_vacuum, .inl (k_vacuum, 40, .inl f_vacuum))]) [0, 1, 2, 3, 4] rfl
    have hD9 := hD.sub (ws' := [(h0, .inr (11, [.ref z_tubes, .ref z_grove, .ref z_season, .ref z_past, .ref z_tank, .ref z_pan, .ref z_cellar, .ref z_coop, .ref z_tape, .ref z_reader, .ref z_facts, .ref z_book, .ref z_spare, .int n_fp])), (z_tubes, .inr (10, [.ref t_to, .ref t_height, .ref t_member, .ref t_lengthHome, .ref t_runs, .ref t_leak, .ref t_vacuum, .ref t_reading, .int n_tb])), (t_to, .inl (k_to, 40, .inl f_to)), (t_leak, .inl (k_leak, 40, .inl f_leak)), (t_vacuum, .inl (k_vacuum, 40, .inl f_vacuum))]) [0, 1, 2, 3, 4] (by decide) rfl
    have hK9 := hK.sub (tys' := []) [] rfl
    exact W.zret (ty := .boolean) (v := 0) hx hb hr rfl (fun t ht hW => ⟨⟨0, (), rfl, (Or.inr (⟨rfl, (lg_X11_pump_1 n_tb v1 yb h_2)⟩)), ⟨f_vacuum, yvac, by rw [ht]; exact hP9, va_K.moved hW.alike hK9, hD9⟩⟩, hS.F ht⟩) hS.2.2 dX11_pump_11

theorem lg_X11_leak_0 (n_tb : Int32) (v1 : Int32) (v2 : Int32) (yb : 1 ≤ n_tb.toInt ∧ n_tb.toInt ≤ 40) (h_2 : 1 ≤ v1.toInt ∧ v1.toInt < n_tb.toInt) (h_5 : (0 : Int) ≤ v2.toInt ∧ v2.toInt ≤ (20 : Int)) : 0 ≤ v2.toInt ∧ v2.toInt ≤ 20 := by
  have := rg_rng n_tb; have := rg_rng v1; have := rg_rng v2; omega
theorem lg_X11_leak_1 (n_tb : Int32) (v1 : Int32) (v2 : Int32) (yb : 1 ≤ n_tb.toInt ∧ n_tb.toInt ≤ 40) (h_2 : 1 ≤ v1.toInt ∧ v1.toInt < n_tb.toInt) (h_5 : (0 : Int) ≤ v2.toInt ∧ v2.toInt ≤ (20 : Int)) : True := by
  have := rg_rng n_tb; have := rg_rng v1; have := rg_rng v2; trivial
theorem lg_X11_leak_2 (n_tb : Int32) (v1 : Int32) (v2 : Int32) (yb : 1 ≤ n_tb.toInt ∧ n_tb.toInt ≤ 40) (h_2 : 1 ≤ v1.toInt ∧ v1.toInt < n_tb.toInt) (h_5 : ¬ ((0 : Int) ≤ v2.toInt ∧ v2.toInt ≤ (20 : Int))) : True := by
  have := rg_rng n_tb; have := rg_rng v1; have := rg_rng v2; trivial
theorem lg_X11_leak_3 (n_tb : Int32) (v1 : Int32) (yb : 1 ≤ n_tb.toInt ∧ n_tb.toInt ≤ 40) (h_2 : ¬ (1 ≤ v1.toInt ∧ v1.toInt < n_tb.toInt)) : True := by
  have := rg_rng n_tb; have := rg_rng v1; trivial
set_option maxHeartbeats 4000000 in
set_option maxRecDepth 100000 in
theorem kX11_leak (l : Launch) (dC : Nat → ClassId) (dI : Nat → Nat → Nat) (sz : Nat) (h0 : Nat) (z_tubes : Nat) (z_grove : Nat) (z_season : Nat) (z_past : Nat) (z_tank : Nat) (z_pan : Nat) (z_cellar : Nat) (z_coop : Nat) (z_tape : Nat) (z_reader : Nat) (z_facts : Nat) (z_book : Nat) (z_spare : Nat) (n_fp : Int32) (t_to : Nat) (t_height : Nat) (t_member : Nat) (t_lengthHome : Nat) (t_runs : Nat) (t_leak : Nat) (t_vacuum : Nat) (t_reading : Nat) (n_tb : Int32) (k_to : ClassId) (k_leak : ClassId) (k_vacuum : ClassId) (f_to : Nat → Int32) (f_leak : Nat → Int32) (f_vacuum : Nat → Int32) (v1 : Int32) (v2 : Int32) (yb : 1 ≤ n_tb.toInt ∧ n_tb.toInt ≤ 40) (yvac : Rg f_vacuum 40 0 100) (ylk : Rg f_leak 40 0 20) : Met l yX11_leak (Cond.code yX11_leak cX11_leak 3 (some .boolean) :: bg) ({ frames := 4, cells := 0, slots := 0, locals := 85 }) (pcW dC dI [.ref h0, .int v1, .int v2] sz [(h0, .inr (11, [.ref z_tubes, .ref z_grove, .ref z_season, .ref z_past, .ref z_tank, .ref z_pan, .ref z_cellar, .ref z_coop, .ref z_tape, .ref z_reader, .ref z_facts, .ref z_book, .ref z_spare, .int n_fp])), (z_tubes, .inr (10, [.ref t_to, .ref t_height, .ref t_member, .ref t_lengthHome, .ref t_runs, .ref t_leak, .ref t_vacuum, .ref t_reading, .int n_tb])), (t_to, .inl (k_to, 40, .inl f_to)), (t_leak, .inl (k_leak, 40, .inl f_leak)), (t_vacuum, .inl (k_vacuum, 40, .inl f_vacuum))] [(k_to, .int), (k_leak, .int), (k_vacuum, .int)]) (va_Qi (fun (r : Int32) (u : Unit) => (r = 1 ∧ True) ∨ (r = 0 ∧ True)) (fun (u : Unit) (t : State) => ∃ (w_leak : Nat → Int32) (w_vacuum : Nat → Int32), Rg w_leak 40 0 20 ∧ Rg w_vacuum 40 0 100 ∧ va_P (dC, dI) vwCl [(h0, .inr (11, [.ref z_tubes, .ref z_grove, .ref z_season, .ref z_past, .ref z_tank, .ref z_pan, .ref z_cellar, .ref z_coop, .ref z_tape, .ref z_reader, .ref z_facts, .ref z_book, .ref z_spare, .int n_fp])), (z_tubes, .inr (10, [.ref t_to, .ref t_height, .ref t_member, .ref t_lengthHome, .ref t_runs, .ref t_leak, .ref t_vacuum, .ref t_reading, .int n_tb])), (t_to, .inl (k_to, 40, .inl f_to)), (t_leak, .inl (k_leak, 40, .inl w_leak)), (t_vacuum, .inl (k_vacuum, 40, .inl w_vacuum))] t.heap ∧ va_K (dC, dI) vwCl [] t ∧ va_D (va_A [(h0, .inr (11, [.ref z_tubes, .ref z_grove, .ref z_season, .ref z_past, .ref z_tank, .ref z_pan, .ref z_cellar, .ref z_coop, .ref z_tape, .ref z_reader, .ref z_facts, .ref z_book, .ref z_spare, .int n_fp])), (z_tubes, .inr (10, [.ref t_to, .ref t_height, .ref t_member, .ref t_lengthHome, .ref t_runs, .ref t_leak, .ref t_vacuum, .ref t_reading, .int n_tb])), (t_to, .inl (k_to, 40, .inl f_to)), (t_leak, .inl (k_leak, 40, .inl f_leak)), (t_vacuum, .inl (k_vacuum, 40, .inl f_vacuum))] sz) [(h0, .inr (11, [.ref z_tubes, .ref z_grove, .ref z_season, .ref z_past, .ref z_tank, .ref z_pan, .ref z_cellar, .ref z_coop, .ref z_tape, .ref z_reader, .ref z_facts, .ref z_book, .ref z_spare, .int n_fp])), (z_tubes, .inr (10, [.ref t_to, .ref t_height, .ref t_member, .ref t_lengthHome, .ref t_runs, .ref t_leak, .ref t_vacuum, .ref t_reading, .int n_tb])), (t_to, .inl (k_to, 40, .inl f_to)), (t_leak, .inl (k_leak, 40, .inl w_leak)), (t_vacuum, .inl (k_vacuum, 40, .inl w_vacuum))]) (va_A [(h0, .inr (11, [.ref z_tubes, .ref z_grove, .ref z_season, .ref z_past, .ref z_tank, .ref z_pan, .ref z_cellar, .ref z_coop, .ref z_tape, .ref z_reader, .ref z_facts, .ref z_book, .ref z_spare, .int n_fp])), (z_tubes, .inr (10, [.ref t_to, .ref t_height, .ref t_member, .ref t_lengthHome, .ref t_runs, .ref t_leak, .ref t_vacuum, .ref t_reading, .int n_tb])), (t_to, .inl (k_to, 40, .inl f_to)), (t_leak, .inl (k_leak, 40, .inl f_leak)), (t_vacuum, .inl (k_vacuum, 40, .inl f_vacuum))] sz)) 0 0 (va_A [(h0, .inr (11, [.ref z_tubes, .ref z_grove, .ref z_season, .ref z_past, .ref z_tank, .ref z_pan, .ref z_cellar, .ref z_coop, .ref z_tape, .ref z_reader, .ref z_facts, .ref z_book, .ref z_spare, .int n_fp])), (z_tubes, .inr (10, [.ref t_to, .ref t_height, .ref t_member, .ref t_lengthHome, .ref t_runs, .ref t_leak, .ref t_vacuum, .ref t_reading, .int n_tb])), (t_to, .inl (k_to, 40, .inl f_to)), (t_leak, .inl (k_leak, 40, .inl f_leak)), (t_vacuum, .inl (k_vacuum, 40, .inl f_vacuum))] sz) := by
  refine Met.ofW (cc := cX11_leak) (maxL := 3) (ret := (some .boolean)) pnX11 rfl ?_
  intro p e s m args below meth c s₁ B hml hv
  obtain ⟨rfl, hsz, hP, hK, hD0, hN⟩ := hv
  have hx := B.exec
  have hb := B.bytes
  have hr := B.returns
  have htb : ∀ w ∈ bg, w.before [.ref h0, .int v1, .int v2].toArray s = true := fun w h => atoms_spec (ws := Cond.code yX11_leak cX11_leak 3 (some .boolean) :: bg) B.pre w (List.mem_cons_of_mem _ h)
  have hown : s.vm.findClass RX11 = some m.cls := findClass_of_methodNamed B.named
  have hlocks := B.notSynchronized
  subst hsz
  have hD := hD0.self (sz := s.heap.size)
  generalize hAe : va_A [(h0, .inr (11, [.ref z_tubes, .ref z_grove, .ref z_season, .ref z_past, .ref z_tank, .ref z_pan, .ref z_cellar, .ref z_coop, .ref z_tape, .ref z_reader, .ref z_facts, .ref z_book, .ref z_spare, .int n_fp])), (z_tubes, .inr (10, [.ref t_to, .ref t_height, .ref t_member, .ref t_lengthHome, .ref t_runs, .ref t_leak, .ref t_vacuum, .ref t_reading, .int n_tb])), (t_to, .inl (k_to, 40, .inl f_to)), (t_leak, .inl (k_leak, 40, .inl f_leak)), (t_vacuum, .inl (k_vacuum, 40, .inl f_vacuum))] s.heap.size = A at hD ⊢
  have hA : ∀ q : Nat, s.heap.size ≤ q → A q := fun q h => by rw [← hAe]; exact Or.inr h
  have hS : va_S A s.heap s.heap [] := va_S.rf
  have hl := lv_entry ([.ref h0, .int v1, .int v2]) (n := 3) (Nat.le_of_ble_eq_true rfl)
  rw [lg_entry_eq]
  generalize (lg_sl ([.ref h0, .int v1, .int v2]) ++ List.replicate (3 - (lg_sl ([.ref h0, .int v1, .int v2])).length) Slot.unset).toArray = ls at hl ⊢
  change lv_has ls 3 [(0, .ref h0), (1, .int v1), (2, .int v2)] at hl
  clear hD0 hAe
  refine go0 (wsP := fun H => va_P (dC, dI) vwCl [(h0, .inr (11, [.ref z_tubes, .ref z_grove, .ref z_season, .ref z_past, .ref z_tank, .ref z_pan, .ref z_cellar, .ref z_coop, .ref z_tape, .ref z_reader, .ref z_facts, .ref z_book, .ref z_spare, .int n_fp])), (z_tubes, .inr (10, [.ref t_to, .ref t_height, .ref t_member, .ref t_lengthHome, .ref t_runs, .ref t_leak, .ref t_vacuum, .ref t_reading, .int n_tb])), (t_to, .inl (k_to, 40, .inl f_to)), (t_leak, .inl (k_leak, 40, .inl f_leak)), (t_vacuum, .inl (k_vacuum, 40, .inl f_vacuum))] H) hP hS ?_
  clear hP hS; intro H locs hP hS
  change va_P (dC, dI) vwCl [(h0, .inr (11, [.ref z_tubes, .ref z_grove, .ref z_season, .ref z_past, .ref z_tank, .ref z_pan, .ref z_cellar, .ref z_coop, .ref z_tape, .ref z_reader, .ref z_facts, .ref z_book, .ref z_spare, .int n_fp])), (z_tubes, .inr (10, [.ref t_to, .ref t_height, .ref t_member, .ref t_lengthHome, .ref t_runs, .ref t_leak, .ref t_vacuum, .ref t_reading, .int n_tb])), (t_to, .inl (k_to, 40, .inl f_to)), (t_leak, .inl (k_leak, 40, .inl f_leak)), (t_vacuum, .inl (k_vacuum, 40, .inl f_vacuum))] H at hP
  refine lv_aload_n hx hb dX11_leak_0 rfl (lv_at hl 0 rfl) ?_
  refine va_get (D := (dC, dI)) (ci := 11) (v := .ref z_tubes) (C := RX11) (T := TX11) (N := 14) hx hb htb iX11 hown hK hP 0 rfl rfl 0 (Nat.le_of_ble_eq_true rfl) (htb _ m_302) (fun _ h9 => h9) rfl dX11_leak_1 ?_
  refine lv_iload_n hx hb dX11_leak_4 rfl (lv_at hl 1 rfl) ?_
  have hPc := hP.sub (ws' := [(z_tubes, .inr (10, [.ref t_to, .ref t_height, .ref t_member, .ref t_lengthHome, .ref t_runs, .ref t_leak, .ref t_vacuum, .ref t_reading, .int n_tb]))]) [1] rfl
  have hDc := hD.sub (ws' := [(z_tubes, .inr (10, [.ref t_to, .ref t_height, .ref t_member, .ref t_lengthHome, .ref t_runs, .ref t_leak, .ref t_vacuum, .ref t_reading, .int n_tb]))]) [1] (by decide) rfl
  have hKc := hK.sub (tys' := []) [] rfl
  have hFc := va_free (wc := [(z_tubes, .inr (10, [.ref t_to, .ref t_height, .ref t_member, .ref t_lengthHome, .ref t_runs, .ref t_leak, .ref t_vacuum, .ref t_reading, .int n_tb]))]) hD hS hA [1] rfl
  refine va_calli (va_runV (C := RX10) (As := [.int v1]) (rest := []) ⟨hx, hb, hml, hown, htb⟩ (kX10_hasTube l dC dI H.size z_tubes t_to t_height t_member t_lengthHome t_runs t_leak t_vacuum t_reading n_tb v1 ) ⟨callB_of 1 htb (gd_c m_371) rfl rfl rfl (htb _ m_2) (htb _ m_368) hdX10_hasTube ⟨(Nat.le_of_ble_eq_true rfl), (Nat.le_of_ble_eq_true rfl)⟩, htb _ m_369, htb _ m_370⟩ ⟨pcW_blind, va_recv hKc hPc (ci := 10) (q0 := 0) rfl rfl, pcW_at hPc hKc hDc hN⟩ rfl rfl hl.1 rfl (lv_room (Nat.le_of_ble_eq_true rfl)) dX11_leak_5 ⟨(Nat.le_of_ble_eq_true rfl), (Nat.le_of_ble_eq_true rfl)⟩) hS (fun q _ h => hFc q h) hFc (fun r_1 u t H1 locs1 ht hvm h_2 hB hz1 hk1 hS1 => ?_)
  obtain ⟨hP1, hK1, hD1⟩ := hB
  rw [ht] at hP1
  obtain ⟨hPn, hDn⟩ := va_join (wr := [(h0, .inr (11, [.ref z_tubes, .ref z_grove, .ref z_season, .ref z_past, .ref z_tank, .ref z_pan, .ref z_cellar, .ref z_coop, .ref z_tape, .ref z_reader, .ref z_facts, .ref z_book, .ref z_spare, .int n_fp])), (t_to, .inl (k_to, 40, .inl f_to)), (t_leak, .inl (k_leak, 40, .inl f_leak)), (t_vacuum, .inl (k_vacuum, 40, .inl f_vacuum))]) (w1 := [(z_tubes, .inr (10, [.ref t_to, .ref t_height, .ref t_member, .ref t_lengthHome, .ref t_runs, .ref t_leak, .ref t_vacuum, .ref t_reading, .int n_tb]))]) hP hD [1] [0, 2, 3, 4] rfl rfl (by decide) (by decide) hk1 hFc hP1 hD1
  clear hP1 hD1 hK1
  clear hP hD hS hPc hDc hKc hFc hk1 hz1 ht hvm
  clear t
  revert hS1 hPn hDn; generalize H1 = H; generalize locs1 = locs; intro hS hP hD
  change va_P (dC, dI) vwCl [(h0, .inr (11, [.ref z_tubes, .ref z_grove, .ref z_season, .ref z_past, .ref z_tank, .ref z_pan, .ref z_cellar, .ref z_coop, .ref z_tape, .ref z_reader, .ref z_facts, .ref z_book, .ref z_spare, .int n_fp])), (t_to, .inl (k_to, 40, .inl f_to)), (t_leak, .inl (k_leak, 40, .inl f_leak)), (t_vacuum, .inl (k_vacuum, 40, .inl f_vacuum)), (z_tubes, .inr (10, [.ref t_to, .ref t_height, .ref t_member, .ref t_lengthHome, .ref t_runs, .ref t_leak, .ref t_vacuum, .ref t_reading, .int n_tb]))] H at hP
  change va_D A [(h0, .inr (11, [.ref z_tubes, .ref z_grove, .ref z_season, .ref z_past, .ref z_tank, .ref z_pan, .ref z_cellar, .ref z_coop, .ref z_tape, .ref z_reader, .ref z_facts, .ref z_book, .ref z_spare, .int n_fp])), (t_to, .inl (k_to, 40, .inl f_to)), (t_leak, .inl (k_leak, 40, .inl f_leak)), (t_vacuum, .inl (k_vacuum, 40, .inl f_vacuum)), (z_tubes, .inr (10, [.ref t_to, .ref t_height, .ref t_member, .ref t_lengthHome, .ref t_runs, .ref t_leak, .ref t_vacuum, .ref t_reading, .int n_tb]))] at hD
  rcases h_2 with ⟨rfl, h_2⟩ | ⟨rfl, h_2⟩
  · refine lv_if_eq (tgt := 21) hx hb dX11_leak_8 (by decide) (fun c_3 => absurd c_3 (by decide)) ?_
    intro _
    refine lv_iload_n hx hb dX11_leak_11 rfl (lv_at hl 2 rfl) ?_
    refine lv_iconst (v := 0) hx hb dX11_leak_12 (by decide) ?_
    refine lv_bipush (v := 20) hx hb dX11_leak_13 (by decide) ?_
    have hPc := hP.sub (ws' := []) [] rfl
    have hDc := hD.sub (ws' := []) [] (by decide) rfl
    have hKc := hK.sub (tys' := []) [] rfl
    have hFc := va_free (wc := []) hD hS hA [] rfl
    refine va_calli (va_runS (As := [.int v2, .int 0, .int 20]) (rest := []) ⟨hx, hb, hml, hown, htb⟩ (kX11_isWithin l dC dI H.size v2 0 20 ) ⟨callB_of 3 htb (gd_c m_355) rfl rfl rfl (htb _ m_1) (htb _ m_353) hdX11_isWithin ⟨(Nat.le_of_ble_eq_true rfl), (Nat.le_of_ble_eq_true rfl)⟩, htb _ m_354⟩ ⟨pcW_blind, pcW_at hPc hKc hDc hN⟩ rfl rfl hl.1 rfl (lv_room (Nat.le_of_ble_eq_true rfl)) dX11_leak_15 ⟨(Nat.le_of_ble_eq_true rfl), (Nat.le_of_ble_eq_true rfl)⟩) hS (fun q _ h => hFc q h) hFc (fun r_4 u t H1 locs1 ht hvm h_5 hB hz1 hk1 hS1 => ?_)
    obtain ⟨hP1, hK1, hD1⟩ := hB
    rw [ht] at hP1
    obtain ⟨hPn, hDn⟩ := va_join (wr := [(h0, .inr (11, [.ref z_tubes, .ref z_grove, .ref z_season, .ref z_past, .ref z_tank, .ref z_pan, .ref z_cellar, .ref z_coop, .ref z_tape, .ref z_reader, .ref z_facts, .ref z_book, .ref z_spare, .int n_fp])), (t_to, .inl (k_to, 40, .inl f_to)), (t_leak, .inl (k_leak, 40, .inl f_leak)), (t_vacuum, .inl (k_vacuum, 40, .inl f_vacuum)), (z_tubes, .inr (10, [.ref t_to, .ref t_height, .ref t_member, .ref t_lengthHome, .ref t_runs, .ref t_leak, .ref t_vacuum, .ref t_reading, .int n_tb]))]) (w1 := []) hP hD [] [0, 1, 2, 3, 4] rfl rfl (by decide) (by decide) hk1 hFc hP1 hD1
    clear hP1 hD1 hK1
    clear hP hD hS hPc hDc hKc hFc hk1 hz1 ht hvm
    clear t
    revert hS1 hPn hDn; generalize H1 = H; generalize locs1 = locs; intro hS hP hD
    change va_P (dC, dI) vwCl [(h0, .inr (11, [.ref z_tubes, .ref z_grove, .ref z_season, .ref z_past, .ref z_tank, .ref z_pan, .ref z_cellar, .ref z_coop, .ref z_tape, .ref z_reader, .ref z_facts, .ref z_book, .ref z_spare, .int n_fp])), (t_to, .inl (k_to, 40, .inl f_to)), (t_leak, .inl (k_leak, 40, .inl f_leak)), (t_vacuum, .inl (k_vacuum, 40, .inl f_vacuum)), (z_tubes, .inr (10, [.ref t_to, .ref t_height, .ref t_member, .ref t_lengthHome, .ref t_runs, .ref t_leak, .ref t_vacuum, .ref t_reading, .int n_tb]))] H at hP
    change va_D A [(h0, .inr (11, [.ref z_tubes, .ref z_grove, .ref z_season, .ref z_past, .ref z_tank, .ref z_pan, .ref z_cellar, .ref z_coop, .ref z_tape, .ref z_reader, .ref z_facts, .ref z_book, .ref z_spare, .int n_fp])), (t_to, .inl (k_to, 40, .inl f_to)), (t_leak, .inl (k_leak, 40, .inl f_leak)), (t_vacuum, .inl (k_vacuum, 40, .inl f_vacuum)), (z_tubes, .inr (10, [.ref t_to, .ref t_height, .ref t_member, .ref t_lengthHome, .ref t_runs, .ref t_leak, .ref t_vacuum, .ref t_reading, .int n_tb]))] at hD
    rcases h_5 with ⟨rfl, h_5⟩ | ⟨rfl, h_5⟩
    · refine lv_if_ne (tgt := 23) hx hb dX11_leak_18 (by decide) ?_ (fun c_6 => absurd c_6 (by decide))
      intro _
      refine lv_aload_n hx hb dX11_leak_23 rfl (lv_at hl 0 rfl) ?_
      refine va_get (D := (dC, dI)) (ci := 11) (v := .ref z_tubes) (C := RX11) (T := TX11) (N := 14) hx hb htb iX11 hown hK hP 0 rfl rfl 0 (Nat.le_of_ble_eq_true rfl) (htb _ m_302) (fun _ h9 => h9) rfl dX11_leak_24 ?_
      refine lv_iload_n hx hb dX11_leak_27 rfl (lv_at hl 1 rfl) ?_
      refine lv_iload_n hx hb dX11_leak_28 rfl (lv_at hl 2 rfl) ?_
      have hPc := hP.sub (ws' := [(z_tubes, .inr (10, [.ref t_to, .ref t_height, .ref t_member, .ref t_lengthHome, .ref t_runs, .ref t_leak, .ref t_vacuum, .ref t_reading, .int n_tb])), (t_to, .inl (k_to, 40, .inl f_to)), (t_leak, .inl (k_leak, 40, .inl f_leak)), (t_vacuum, .inl (k_vacuum, 40, .inl f_vacuum))]) [4, 1, 2, 3] rfl
      have hDc := hD.sub (ws' := [(z_tubes, .inr (10, [.ref t_to, .ref t_height, .ref t_member, .ref t_lengthHome, .ref t_runs, .ref t_leak, .ref t_vacuum, .ref t_reading, .int n_tb])), (t_to, .inl (k_to, 40, .inl f_to)), (t_leak, .inl (k_leak, 40, .inl f_leak)), (t_vacuum, .inl (k_vacuum, 40, .inl f_vacuum))]) [4, 1, 2, 3] (by decide) rfl
      have hKc := hK.sub (tys' := [(k_to, .int), (k_leak, .int), (k_vacuum, .int)]) [0, 1, 2] rfl
      have hFc := va_free (wc := [(z_tubes, .inr (10, [.ref t_to, .ref t_height, .ref t_member, .ref t_lengthHome, .ref t_runs, .ref t_leak, .ref t_vacuum, .ref t_reading, .int n_tb])), (t_to, .inl (k_to, 40, .inl f_to)), (t_leak, .inl (k_leak, 40, .inl f_leak)), (t_vacuum, .inl (k_vacuum, 40, .inl f_vacuum))]) hD hS hA [4, 1, 2, 3] rfl
      refine va_callv (va_runV (C := RX10) (As := [.int v1, .int v2]) (rest := []) ⟨hx, hb, hml, hown, htb⟩ (kX10_setLeak l dC dI H.size z_tubes t_to t_height t_member t_lengthHome t_runs t_leak t_vacuum t_reading n_tb k_to k_leak k_vacuum f_to f_leak f_vacuum v1 v2 yb yvac ylk (lg_X11_leak_0 n_tb v1 v2 yb h_2 h_5)) ⟨callB_of 2 htb (gd_c m_425) rfl rfl rfl (htb _ m_2) (htb _ m_422) hdX10_setLeak ⟨(Nat.le_of_ble_eq_true rfl), (Nat.le_of_ble_eq_true rfl)⟩, htb _ m_423, htb _ m_424⟩ ⟨pcW_blind, va_recv hKc hPc (ci := 10) (q0 := 0) rfl rfl, pcW_at hPc hKc hDc hN⟩ rfl rfl hl.1 rfl (lv_room (Nat.le_of_ble_eq_true rfl)) dX11_leak_29 ⟨(Nat.le_of_ble_eq_true rfl), (Nat.le_of_ble_eq_true rfl)⟩) hS (fun q _ h => hFc q h) hFc (fun u t H1 locs1 ht hvm h_8 hB hz1 hk1 hS1 => ?_)
      obtain ⟨w_leak_9, w_vacuum_10, e_11, e_12, hP1, hK1, hD1⟩ := hB
      rw [ht] at hP1
      obtain ⟨hPn, hDn⟩ := va_join (wr := [(h0, .inr (11, [.ref z_tubes, .ref z_grove, .ref z_season, .ref z_past, .ref z_tank, .ref z_pan, .ref z_cellar, .ref z_coop, .ref z_tape, .ref z_reader, .ref z_facts, .ref z_book, .ref z_spare, .int n_fp]))]) (w1 := [(z_tubes, .inr (10, [.ref t_to, .ref t_height, .ref t_member, .ref t_lengthHome, .ref t_runs, .ref t_leak, .ref t_vacuum, .ref t_reading, .int n_tb])), (t_to, .inl (k_to, 40, .inl f_to)), (t_leak, .inl (k_leak, 40, .inl w_leak_9)), (t_vacuum, .inl (k_vacuum, 40, .inl w_vacuum_10))]) hP hD [4, 1, 2, 3] [0] rfl rfl (by decide) (by decide) hk1 hFc hP1 hD1
      clear hP1 hD1 hK1
      clear hP hD hS hPc hDc hKc hFc hk1 hz1 ht hvm
      clear t
      revert hS1 hPn hDn; generalize H1 = H; generalize locs1 = locs; intro hS hP hD
      change va_P (dC, dI) vwCl [(h0, .inr (11, [.ref z_tubes, .ref z_grove, .ref z_season, .ref z_past, .ref z_tank, .ref z_pan, .ref z_cellar, .ref z_coop, .ref z_tape, .ref z_reader, .ref z_facts, .ref z_book, .ref z_spare, .int n_fp])), (z_tubes, .inr (10, [.ref t_to, .ref t_height, .ref t_member, .ref t_lengthHome, .ref t_runs, .ref t_leak, .ref t_vacuum, .ref t_reading, .int n_tb])), (t_to, .inl (k_to, 40, .inl f_to)), (t_leak, .inl (k_leak, 40, .inl w_leak_9)), (t_vacuum, .inl (k_vacuum, 40, .inl w_vacuum_10))] H at hP
      change va_D A [(h0, .inr (11, [.ref z_tubes, .ref z_grove, .ref z_season, .ref z_past, .ref z_tank, .ref z_pan, .ref z_cellar, .ref z_coop, .ref z_tape, .ref z_reader, .ref z_facts, .ref z_book, .ref z_spare, .int n_fp])), (z_tubes, .inr (10, [.ref t_to, .ref t_height, .ref t_member, .ref t_lengthHome, .ref t_runs, .ref t_leak, .ref t_vacuum, .ref t_reading, .int n_tb])), (t_to, .inl (k_to, 40, .inl f_to)), (t_leak, .inl (k_leak, 40, .inl w_leak_9)), (t_vacuum, .inl (k_vacuum, 40, .inl w_vacuum_10))] at hD
      refine lv_iconst (v := 1) hx hb dX11_leak_32 (by decide) ?_
      refine W.widen (k := 0) (n := 0) (Nat.le_of_ble_eq_true rfl) (Nat.le_of_ble_eq_true rfl) ?_
      have hP9 := hP.sub (ws' := [(h0, .inr (11, [.ref z_tubes, .ref z_grove, .ref z_season, .ref z_past, .ref z_tank, .ref z_pan, .ref z_cellar, .ref z_coop, .ref z_tape, .ref z_reader, .ref z_facts, .ref z_book, .ref z_spare, .int n_fp])), (z_tubes, .inr (10, [.ref t_to, .ref t_height, .ref t_member, .ref t_lengthHome, .ref t_runs, .ref t_leak, .ref t_vacuum, .ref t_reading, .int n_tb])), (t_to, .inl (k_to, 40, .inl f_to)), (t_leak, .inl (k_leak, 40, .inl w_leak_9)), (t_vacuum, .inl (k_vacuum, 40, .inl w_vacuum_10))]) [0, 1, 2, 3, 4] rfl
      have hD9 := hD.sub (ws' := [(h0, .inr (11, [.ref z_tubes, .ref z_grove, .ref z_season, .ref z_past, .ref z_tank, .ref z_pan, .ref z_cellar, .ref z_coop, .ref z_tape, .ref z_reader, .ref z_facts, .ref z_book, .ref z_spare, .int n_fp])), (z_tubes, .inr (10, [.ref t_to, .ref t_height, .ref t_member, .ref t_lengthHome, .ref t_runs, .ref t_leak, .ref t_vacuum, .ref t_reading, .int n_tb])), (t_to, .inl (k_to, 40, .inl f_to)), (t_leak, .inl (k_leak, 40, .inl w_leak_9)), (t_vacuum, .inl (k_vacuum, 40, .inl w_vacuum_10))]) [0, 1, 2, 3, 4] (by decide) rfl
      have hK9 := hK.sub (tys' := []) [] rfl
      exact W.zret (ty := .boolean) (v := 1) hx hb hr rfl (fun t ht hW => ⟨⟨1, (), rfl, (Or.inl ⟨rfl, (lg_X11_leak_1 n_tb v1 v2 yb h_2 h_5)⟩), ⟨w_leak_9, w_vacuum_10, e_11, e_12, by rw [ht]; exact hP9, va_K.moved hW.alike hK9, hD9⟩⟩, hS.F ht⟩) hS.2.2 dX11_leak_33
    · refine lv_if_ne (tgt := 23) hx hb dX11_leak_18 (by decide) (fun c_13 => absurd (by decide) c_13) ?_
      intro _
      refine lv_iconst (v := 0) hx hb dX11_leak_21 (by decide) ?_
      refine W.widen (k := 0) (n := 0) (Nat.le_of_ble_eq_true rfl) (Nat.le_of_ble_eq_true rfl) ?_
      have hP9 := hP.sub (ws' := [(h0, .inr (11, [.ref z_tubes, .ref z_grove, .ref z_season, .ref z_past, .ref z_tank, .ref z_pan, .ref z_cellar, .ref z_coop, .ref z_tape, .ref z_reader, .ref z_facts, .ref z_book, .ref z_spare, .int n_fp])), (z_tubes, .inr (10, [.ref t_to, .ref t_height, .ref t_member, .ref t_lengthHome, .ref t_runs, .ref t_leak, .ref t_vacuum, .ref t_reading, .int n_tb])), (t_to, .inl (k_to, 40, .inl f_to)), (t_leak, .inl (k_leak, 40, .inl f_leak)), (t_vacuum, .inl (k_vacuum, 40, .inl f_vacuum))]) [0, 4, 1, 2, 3] rfl
      have hD9 := hD.sub (ws' := [(h0, .inr (11, [.ref z_tubes, .ref z_grove, .ref z_season, .ref z_past, .ref z_tank, .ref z_pan, .ref z_cellar, .ref z_coop, .ref z_tape, .ref z_reader, .ref z_facts, .ref z_book, .ref z_spare, .int n_fp])), (z_tubes, .inr (10, [.ref t_to, .ref t_height, .ref t_member, .ref t_lengthHome, .ref t_runs, .ref t_leak, .ref t_vacuum, .ref t_reading, .int n_tb])), (t_to, .inl (k_to, 40, .inl f_to)), (t_leak, .inl (k_leak, 40, .inl f_leak)), (t_vacuum, .inl (k_vacuum, 40, .inl f_vacuum))]) [0, 4, 1, 2, 3] (by decide) rfl
      have hK9 := hK.sub (tys' := []) [] rfl
      exact W.zret (ty := .boolean) (v := 0) hx hb hr rfl (fun t ht hW => ⟨⟨0, (), rfl, (Or.inr (⟨rfl, (lg_X11_leak_2 n_tb v1 v2 yb h_2 h_5)⟩)), ⟨f_leak, f_vacuum, ylk, yvac, by rw [ht]; exact hP9, va_K.moved hW.alike hK9, hD9⟩⟩, hS.F ht⟩) hS.2.2 dX11_leak_22
  · refine lv_if_eq (tgt := 21) hx hb dX11_leak_8 (by decide) ?_ (fun c_14 => absurd (by decide) c_14)
    intro _
    refine lv_iconst (v := 0) hx hb dX11_leak_21 (by decide) ?_
    refine W.widen (k := 0) (n := 0) (Nat.le_of_ble_eq_true rfl) (Nat.le_of_ble_eq_true rfl) ?_
    have hP9 := hP.sub (ws' := [(h0, .inr (11, [.ref z_tubes, .ref z_grove, .ref z_season, .ref z_past, .ref z_tank, .ref z_pan, .ref z_cellar, .ref z_coop, .ref z_tape, .ref z_reader, .ref z_facts, .ref z_book, .ref z_spare, .int n_fp])), (z_tubes, .inr (10, [.ref t_to, .ref t_height, .ref t_member, .ref t_lengthHome, .ref t_runs, .ref t_leak, .ref t_vacuum, .ref t_reading, .int n_tb])), (t_to, .inl (k_to, 40, .inl f_to)), (t_leak, .inl (k_leak, 40, .inl f_leak)), (t_vacuum, .inl (k_vacuum, 40, .inl f_vacuum))]) [0, 4, 1, 2, 3] rfl
    have hD9 := hD.sub (ws' := [(h0, .inr (11, [.ref z_tubes, .ref z_grove, .ref z_season, .ref z_past, .ref z_tank, .ref z_pan, .ref z_cellar, .ref z_coop, .ref z_tape, .ref z_reader, .ref z_facts, .ref z_book, .ref z_spare, .int n_fp])), (z_tubes, .inr (10, [.ref t_to, .ref t_height, .ref t_member, .ref t_lengthHome, .ref t_runs, .ref t_leak, .ref t_vacuum, .ref t_reading, .int n_tb])), (t_to, .inl (k_to, 40, .inl f_to)), (t_leak, .inl (k_leak, 40, .inl f_leak)), (t_vacuum, .inl (k_vacuum, 40, .inl f_vacuum))]) [0, 4, 1, 2, 3] (by decide) rfl
    have hK9 := hK.sub (tys' := []) [] rfl
    exact W.zret (ty := .boolean) (v := 0) hx hb hr rfl (fun t ht hW => ⟨⟨0, (), rfl, (Or.inr (⟨rfl, (lg_X11_leak_3 n_tb v1 yb h_2)⟩)), ⟨f_leak, f_vacuum, ylk, yvac, by rw [ht]; exact hP9, va_K.moved hW.alike hK9, hD9⟩⟩, hS.F ht⟩) hS.2.2 dX11_leak_22

theorem lg_X11_gauge_0 (n_tb : Int32) (v1 : Int32) (v2 : Int32) (yb : 1 ≤ n_tb.toInt ∧ n_tb.toInt ≤ 40) (h_2 : 1 ≤ v1.toInt ∧ v1.toInt < n_tb.toInt) (t_5 : v2.toInt = (-1 : Int)) : True := by
  have := rg_rng n_tb; have := rg_rng v1; have := rg_rng v2; trivial
theorem lg_X11_gauge_1 (n_tb : Int32) (v1 : Int32) (v2 : Int32) (yb : 1 ≤ n_tb.toInt ∧ n_tb.toInt ≤ 40) (h_2 : 1 ≤ v1.toInt ∧ v1.toInt < n_tb.toInt) (t_5 : ¬ v2.toInt = (-1 : Int)) (h_10 : (0 : Int) ≤ v2.toInt ∧ v2.toInt ≤ (100 : Int)) : True := by
  have := rg_rng n_tb; have := rg_rng v1; have := rg_rng v2; trivial
theorem lg_X11_gauge_2 (n_tb : Int32) (v1 : Int32) (v2 : Int32) (yb : 1 ≤ n_tb.toInt ∧ n_tb.toInt ≤ 40) (h_2 : 1 ≤ v1.toInt ∧ v1.toInt < n_tb.toInt) (t_5 : ¬ v2.toInt = (-1 : Int)) (h_10 : ¬ ((0 : Int) ≤ v2.toInt ∧ v2.toInt ≤ (100 : Int))) : True := by
  have := rg_rng n_tb; have := rg_rng v1; have := rg_rng v2; trivial
theorem lg_X11_gauge_3 (n_tb : Int32) (v1 : Int32) (yb : 1 ≤ n_tb.toInt ∧ n_tb.toInt ≤ 40) (h_2 : ¬ (1 ≤ v1.toInt ∧ v1.toInt < n_tb.toInt)) : True := by
  have := rg_rng n_tb; have := rg_rng v1; trivial
set_option maxHeartbeats 4000000 in
set_option maxRecDepth 100000 in
theorem kX11_gauge (l : Launch) (dC : Nat → ClassId) (dI : Nat → Nat → Nat) (sz : Nat) (h0 : Nat) (z_tubes : Nat) (z_grove : Nat) (z_season : Nat) (z_past : Nat) (z_tank : Nat) (z_pan : Nat) (z_cellar : Nat) (z_coop : Nat) (z_tape : Nat) (z_reader : Nat) (z_facts : Nat) (z_book : Nat) (z_spare : Nat) (n_fp : Int32) (t_to : Nat) (t_height : Nat) (t_member : Nat) (t_lengthHome : Nat) (t_runs : Nat) (t_leak : Nat) (t_vacuum : Nat) (t_reading : Nat) (n_tb : Int32) (k_reading : ClassId) (f_reading : Nat → Int32) (v1 : Int32) (v2 : Int32) (yb : 1 ≤ n_tb.toInt ∧ n_tb.toInt ≤ 40) : Met l yX11_gauge (Cond.code yX11_gauge cX11_gauge 3 (some .boolean) :: bg) ({ frames := 3, cells := 0, slots := 0, locals := 64 }) (pcW dC dI [.ref h0, .int v1, .int v2] sz [(h0, .inr (11, [.ref z_tubes, .ref z_grove, .ref z_season, .ref z_past, .ref z_tank, .ref z_pan, .ref z_cellar, .ref z_coop, .ref z_tape, .ref z_reader, .ref z_facts, .ref z_book, .ref z_spare, .int n_fp])), (z_tubes, .inr (10, [.ref t_to, .ref t_height, .ref t_member, .ref t_lengthHome, .ref t_runs, .ref t_leak, .ref t_vacuum, .ref t_reading, .int n_tb])), (t_reading, .inl (k_reading, 40, .inl f_reading))] [(k_reading, .int)]) (va_Qi (fun (r : Int32) (u : Unit) => (r = 1 ∧ True) ∨ (r = 0 ∧ True)) (fun (u : Unit) (t : State) => ∃ (w_reading : Nat → Int32), va_P (dC, dI) vwCl [(h0, .inr (11, [.ref z_tubes, .ref z_grove, .ref z_season, .ref z_past, .ref z_tank, .ref z_pan, .ref z_cellar, .ref z_coop, .ref z_tape, .ref z_reader, .ref z_facts, .ref z_book, .ref z_spare, .int n_fp])), (z_tubes, .inr (10, [.ref t_to, .ref t_height, .ref t_member, .ref t_lengthHome, .ref t_runs, .ref t_leak, .ref t_vacuum, .ref t_reading, .int n_tb])), (t_reading, .inl (k_reading, 40, .inl w_reading))] t.heap ∧ va_K (dC, dI) vwCl [] t ∧ va_D (va_A [(h0, .inr (11, [.ref z_tubes, .ref z_grove, .ref z_season, .ref z_past, .ref z_tank, .ref z_pan, .ref z_cellar, .ref z_coop, .ref z_tape, .ref z_reader, .ref z_facts, .ref z_book, .ref z_spare, .int n_fp])), (z_tubes, .inr (10, [.ref t_to, .ref t_height, .ref t_member, .ref t_lengthHome, .ref t_runs, .ref t_leak, .ref t_vacuum, .ref t_reading, .int n_tb])), (t_reading, .inl (k_reading, 40, .inl f_reading))] sz) [(h0, .inr (11, [.ref z_tubes, .ref z_grove, .ref z_season, .ref z_past, .ref z_tank, .ref z_pan, .ref z_cellar, .ref z_coop, .ref z_tape, .ref z_reader, .ref z_facts, .ref z_book, .ref z_spare, .int n_fp])), (z_tubes, .inr (10, [.ref t_to, .ref t_height, .ref t_member, .ref t_lengthHome, .ref t_runs, .ref t_leak, .ref t_vacuum, .ref t_reading, .int n_tb])), (t_reading, .inl (k_reading, 40, .inl w_reading))]) (va_A [(h0, .inr (11, [.ref z_tubes, .ref z_grove, .ref z_season, .ref z_past, .ref z_tank, .ref z_pan, .ref z_cellar, .ref z_coop, .ref z_tape, .ref z_reader, .ref z_facts, .ref z_book, .ref z_spare, .int n_fp])), (z_tubes, .inr (10, [.ref t_to, .ref t_height, .ref t_member, .ref t_lengthHome, .ref t_runs, .ref t_leak, .ref t_vacuum, .ref t_reading, .int n_tb])), (t_reading, .inl (k_reading, 40, .inl f_reading))] sz)) 0 0 (va_A [(h0, .inr (11, [.ref z_tubes, .ref z_grove, .ref z_season, .ref z_past, .ref z_tank, .ref z_pan, .ref z_cellar, .ref z_coop, .ref z_tape, .ref z_reader, .ref z_facts, .ref z_book, .ref z_spare, .int n_fp])), (z_tubes, .inr (10, [.ref t_to, .ref t_height, .ref t_member, .ref t_lengthHome, .ref t_runs, .ref t_leak, .ref t_vacuum, .ref t_reading, .int n_tb])), (t_reading, .inl (k_reading, 40, .inl f_reading))] sz) := by
  refine Met.ofW (cc := cX11_gauge) (maxL := 3) (ret := (some .boolean)) pnX11 rfl ?_
  intro p e s m args below meth c s₁ B hml hv
  obtain ⟨rfl, hsz, hP, hK, hD0, hN⟩ := hv
  have hx := B.exec
  have hb := B.bytes
  have hr := B.returns
  have htb : ∀ w ∈ bg, w.before [.ref h0, .int v1, .int v2].toArray s = true := fun w h => atoms_spec (ws := Cond.code yX11_gauge cX11_gauge 3 (some .boolean) :: bg) B.pre w (List.mem_cons_of_mem _ h)
  have hown : s.vm.findClass RX11 = some m.cls := findClass_of_methodNamed B.named
  have hlocks := B.notSynchronized
  subst hsz
  have hD := hD0.self (sz := s.heap.size)
  generalize hAe : va_A [(h0, .inr (11, [.ref z_tubes, .ref z_grove, .ref z_season, .ref z_past, .ref z_tank, .ref z_pan, .ref z_cellar, .ref z_coop, .ref z_tape, .ref z_reader, .ref z_facts, .ref z_book, .ref z_spare, .int n_fp])), (z_tubes, .inr (10, [.ref t_to, .ref t_height, .ref t_member, .ref t_lengthHome, .ref t_runs, .ref t_leak, .ref t_vacuum, .ref t_reading, .int n_tb])), (t_reading, .inl (k_reading, 40, .inl f_reading))] s.heap.size = A at hD ⊢
  have hA : ∀ q : Nat, s.heap.size ≤ q → A q := fun q h => by rw [← hAe]; exact Or.inr h
  have hS : va_S A s.heap s.heap [] := va_S.rf
  have hl := lv_entry ([.ref h0, .int v1, .int v2]) (n := 3) (Nat.le_of_ble_eq_true rfl)
  rw [lg_entry_eq]
  generalize (lg_sl ([.ref h0, .int v1, .int v2]) ++ List.replicate (3 - (lg_sl ([.ref h0, .int v1, .int v2])).length) Slot.unset).toArray = ls at hl ⊢
  change lv_has ls 3 [(0, .ref h0), (1, .int v1), (2, .int v2)] at hl
  clear hD0 hAe
  refine go0 (wsP := fun H => va_P (dC, dI) vwCl [(h0, .inr (11, [.ref z_tubes, .ref z_grove, .ref z_season, .ref z_past, .ref z_tank, .ref z_pan, .ref z_cellar, .ref z_coop, .ref z_tape, .ref z_reader, .ref z_facts, .ref z_book, .ref z_spare, .int n_fp])), (z_tubes, .inr (10, [.ref t_to, .ref t_height, .ref t_member, .ref t_lengthHome, .ref t_runs, .ref t_leak, .ref t_vacuum, .ref t_reading, .int n_tb])), (t_reading, .inl (k_reading, 40, .inl f_reading))] H) hP hS ?_
  clear hP hS; intro H locs hP hS
  change va_P (dC, dI) vwCl [(h0, .inr (11, [.ref z_tubes, .ref z_grove, .ref z_season, .ref z_past, .ref z_tank, .ref z_pan, .ref z_cellar, .ref z_coop, .ref z_tape, .ref z_reader, .ref z_facts, .ref z_book, .ref z_spare, .int n_fp])), (z_tubes, .inr (10, [.ref t_to, .ref t_height, .ref t_member, .ref t_lengthHome, .ref t_runs, .ref t_leak, .ref t_vacuum, .ref t_reading, .int n_tb])), (t_reading, .inl (k_reading, 40, .inl f_reading))] H at hP
  refine lv_aload_n hx hb dX11_gauge_0 rfl (lv_at hl 0 rfl) ?_
  refine va_get (D := (dC, dI)) (ci := 11) (v := .ref z_tubes) (C := RX11) (T := TX11) (N := 14) hx hb htb iX11 hown hK hP 0 rfl rfl 0 (Nat.le_of_ble_eq_true rfl) (htb _ m_302) (fun _ h9 => h9) rfl dX11_gauge_1 ?_
  refine lv_iload_n hx hb dX11_gauge_4 rfl (lv_at hl 1 rfl) ?_
  have hPc := hP.sub (ws' := [(z_tubes, .inr (10, [.ref t_to, .ref t_height, .ref t_member, .ref t_lengthHome, .ref t_runs, .ref t_leak, .ref t_vacuum, .ref t_reading, .int n_tb]))]) [1] rfl
  have hDc := hD.sub (ws' := [(z_tubes, .inr (10, [.ref t_to, .ref t_height, .ref t_member, .ref t_lengthHome, .ref t_runs, .ref t_leak, .ref t_vacuum, .ref t_reading, .int n_tb]))]) [1] (by decide) rfl
  have hKc := hK.sub (tys' := []) [] rfl
  have hFc := va_free (wc := [(z_tubes, .inr (10, [.ref t_to, .ref t_height, .ref t_member, .ref t_lengthHome, .ref t_runs, .ref t_leak, .ref t_vacuum, .ref t_reading, .int n_tb]))]) hD hS hA [1] rfl
  refine va_calli (va_runV (C := RX10) (As := [.int v1]) (rest := []) ⟨hx, hb, hml, hown, htb⟩ (kX10_hasTube l dC dI H.size z_tubes t_to t_height t_member t_lengthHome t_runs t_leak t_vacuum t_reading n_tb v1 ) ⟨callB_of 1 htb (gd_c m_371) rfl rfl rfl (htb _ m_2) (htb _ m_368) hdX10_hasTube ⟨(Nat.le_of_ble_eq_true rfl), (Nat.le_of_ble_eq_true rfl)⟩, htb _ m_369, htb _ m_370⟩ ⟨pcW_blind, va_recv hKc hPc (ci := 10) (q0 := 0) rfl rfl, pcW_at hPc hKc hDc hN⟩ rfl rfl hl.1 rfl (lv_room (Nat.le_of_ble_eq_true rfl)) dX11_gauge_5 ⟨(Nat.le_of_ble_eq_true rfl), (Nat.le_of_ble_eq_true rfl)⟩) hS (fun q _ h => hFc q h) hFc (fun r_1 u t H1 locs1 ht hvm h_2 hB hz1 hk1 hS1 => ?_)
  obtain ⟨hP1, hK1, hD1⟩ := hB
  rw [ht] at hP1
  obtain ⟨hPn, hDn⟩ := va_join (wr := [(h0, .inr (11, [.ref z_tubes, .ref z_grove, .ref z_season, .ref z_past, .ref z_tank, .ref z_pan, .ref z_cellar, .ref z_coop, .ref z_tape, .ref z_reader, .ref z_facts, .ref z_book, .ref z_spare, .int n_fp])), (t_reading, .inl (k_reading, 40, .inl f_reading))]) (w1 := [(z_tubes, .inr (10, [.ref t_to, .ref t_height, .ref t_member, .ref t_lengthHome, .ref t_runs, .ref t_leak, .ref t_vacuum, .ref t_reading, .int n_tb]))]) hP hD [1] [0, 2] rfl rfl (by decide) (by decide) hk1 hFc hP1 hD1
  clear hP1 hD1 hK1
  clear hP hD hS hPc hDc hKc hFc hk1 hz1 ht hvm
  clear t
  revert hS1 hPn hDn; generalize H1 = H; generalize locs1 = locs; intro hS hP hD
  change va_P (dC, dI) vwCl [(h0, .inr (11, [.ref z_tubes, .ref z_grove, .ref z_season, .ref z_past, .ref z_tank, .ref z_pan, .ref z_cellar, .ref z_coop, .ref z_tape, .ref z_reader, .ref z_facts, .ref z_book, .ref z_spare, .int n_fp])), (t_reading, .inl (k_reading, 40, .inl f_reading)), (z_tubes, .inr (10, [.ref t_to, .ref t_height, .ref t_member, .ref t_lengthHome, .ref t_runs, .ref t_leak, .ref t_vacuum, .ref t_reading, .int n_tb]))] H at hP
  change va_D A [(h0, .inr (11, [.ref z_tubes, .ref z_grove, .ref z_season, .ref z_past, .ref z_tank, .ref z_pan, .ref z_cellar, .ref z_coop, .ref z_tape, .ref z_reader, .ref z_facts, .ref z_book, .ref z_spare, .int n_fp])), (t_reading, .inl (k_reading, 40, .inl f_reading)), (z_tubes, .inr (10, [.ref t_to, .ref t_height, .ref t_member, .ref t_lengthHome, .ref t_runs, .ref t_leak, .ref t_vacuum, .ref t_reading, .int n_tb]))] at hD
  rcases h_2 with ⟨rfl, h_2⟩ | ⟨rfl, h_2⟩
  · refine lv_if_eq (tgt := 26) hx hb dX11_gauge_8 (by decide) (fun c_3 => absurd c_3 (by decide)) ?_
    intro _
    refine lv_iload_n hx hb dX11_gauge_11 rfl (lv_at hl 2 rfl) ?_
    refine lv_iconst (v := (-1)) hx hb dX11_gauge_12 (by decide) ?_
    refine lv_icmp_eq (tgt := 28) hx hb dX11_gauge_13 (by decide) (fun c_4 => ?_) (fun c_4 => ?_)
    · have t_5 : v2.toInt = (-1 : Int) := i_eq rfl (by decide) c_4
      refine lv_aload_n hx hb dX11_gauge_28 rfl (lv_at hl 0 rfl) ?_
      refine va_get (D := (dC, dI)) (ci := 11) (v := .ref z_tubes) (C := RX11) (T := TX11) (N := 14) hx hb htb iX11 hown hK hP 0 rfl rfl 0 (Nat.le_of_ble_eq_true rfl) (htb _ m_302) (fun _ h9 => h9) rfl dX11_gauge_29 ?_
      refine lv_iload_n hx hb dX11_gauge_32 rfl (lv_at hl 1 rfl) ?_
      refine lv_iload_n hx hb dX11_gauge_33 rfl (lv_at hl 2 rfl) ?_
      have hPc := hP.sub (ws' := [(z_tubes, .inr (10, [.ref t_to, .ref t_height, .ref t_member, .ref t_lengthHome, .ref t_runs, .ref t_leak, .ref t_vacuum, .ref t_reading, .int n_tb])), (t_reading, .inl (k_reading, 40, .inl f_reading))]) [2, 1] rfl
      have hDc := hD.sub (ws' := [(z_tubes, .inr (10, [.ref t_to, .ref t_height, .ref t_member, .ref t_lengthHome, .ref t_runs, .ref t_leak, .ref t_vacuum, .ref t_reading, .int n_tb])), (t_reading, .inl (k_reading, 40, .inl f_reading))]) [2, 1] (by decide) rfl
      have hKc := hK.sub (tys' := [(k_reading, .int)]) [0] rfl
      have hFc := va_free (wc := [(z_tubes, .inr (10, [.ref t_to, .ref t_height, .ref t_member, .ref t_lengthHome, .ref t_runs, .ref t_leak, .ref t_vacuum, .ref t_reading, .int n_tb])), (t_reading, .inl (k_reading, 40, .inl f_reading))]) hD hS hA [2, 1] rfl
      refine va_callv (va_runV (C := RX10) (As := [.int v1, .int v2]) (rest := []) ⟨hx, hb, hml, hown, htb⟩ (kX10_setReading l dC dI H.size z_tubes t_to t_height t_member t_lengthHome t_runs t_leak t_vacuum t_reading n_tb k_reading f_reading v1 v2 yb) ⟨callB_of 2 htb (gd_c m_453) rfl rfl rfl (htb _ m_2) (htb _ m_450) hdX10_setReading ⟨(Nat.le_of_ble_eq_true rfl), (Nat.le_of_ble_eq_true rfl)⟩, htb _ m_451, htb _ m_452⟩ ⟨pcW_blind, va_recv hKc hPc (ci := 10) (q0 := 0) rfl rfl, pcW_at hPc hKc hDc hN⟩ rfl rfl hl.1 rfl (lv_room (Nat.le_of_ble_eq_true rfl)) dX11_gauge_34 ⟨(Nat.le_of_ble_eq_true rfl), (Nat.le_of_ble_eq_true rfl)⟩) hS (fun q _ h => hFc q h) hFc (fun u t H1 locs1 ht hvm h_7 hB hz1 hk1 hS1 => ?_)
      obtain ⟨w_reading_8, hP1, hK1, hD1⟩ := hB
      rw [ht] at hP1
      obtain ⟨hPn, hDn⟩ := va_join (wr := [(h0, .inr (11, [.ref z_tubes, .ref z_grove, .ref z_season, .ref z_past, .ref z_tank, .ref z_pan, .ref z_cellar, .ref z_coop, .ref z_tape, .ref z_reader, .ref z_facts, .ref z_book, .ref z_spare, .int n_fp]))]) (w1 := [(z_tubes, .inr (10, [.ref t_to, .ref t_height, .ref t_member, .ref t_lengthHome, .ref t_runs, .ref t_leak, .ref t_vacuum, .ref t_reading, .int n_tb])), (t_reading, .inl (k_reading, 40, .inl w_reading_8))]) hP hD [2, 1] [0] rfl rfl (by decide) (by decide) hk1 hFc hP1 hD1
      clear hP1 hD1 hK1
      clear hP hD hS hPc hDc hKc hFc hk1 hz1 ht hvm
      clear t
      revert hS1 hPn hDn; generalize H1 = H; generalize locs1 = locs; intro hS hP hD
      change va_P (dC, dI) vwCl [(h0, .inr (11, [.ref z_tubes, .ref z_grove, .ref z_season, .ref z_past, .ref z_tank, .ref z_pan, .ref z_cellar, .ref z_coop, .ref z_tape, .ref z_reader, .ref z_facts, .ref z_book, .ref z_spare, .int n_fp])), (z_tubes, .inr (10, [.ref t_to, .ref t_height, .ref t_member, .ref t_lengthHome, .ref t_runs, .ref t_leak, .ref t_vacuum, .ref t_reading, .int n_tb])), (t_reading, .inl (k_reading, 40, .inl w_reading_8))] H at hP
      change va_D A [(h0, .inr (11, [.ref z_tubes, .ref z_grove, .ref z_season, .ref z_past, .ref z_tank, .ref z_pan, .ref z_cellar, .ref z_coop, .ref z_tape, .ref z_reader, .ref z_facts, .ref z_book, .ref z_spare, .int n_fp])), (z_tubes, .inr (10, [.ref t_to, .ref t_height, .ref t_member, .ref t_lengthHome, .ref t_runs, .ref t_leak, .ref t_vacuum, .ref t_reading, .int n_tb])), (t_reading, .inl (k_reading, 40, .inl w_reading_8))] at hD
      refine lv_iconst (v := 1) hx hb dX11_gauge_37 (by decide) ?_
      refine W.widen (k := 0) (n := 0) (Nat.le_of_ble_eq_true rfl) (Nat.le_of_ble_eq_true rfl) ?_
      have hP9 := hP.sub (ws' := [(h0, .inr (11, [.ref z_tubes, .ref z_grove, .ref z_season, .ref z_past, .ref z_tank, .ref z_pan, .ref z_cellar, .ref z_coop, .ref z_tape, .ref z_reader, .ref z_facts, .ref z_book, .ref z_spare, .int n_fp])), (z_tubes, .inr (10, [.ref t_to, .ref t_height, .ref t_member, .ref t_lengthHome, .ref t_runs, .ref t_leak, .ref t_vacuum, .ref t_reading, .int n_tb])), (t_reading, .inl (k_reading, 40, .inl w_reading_8))]) [0, 1, 2] rfl
      have hD9 := hD.sub (ws' := [(h0, .inr (11, [.ref z_tubes, .ref z_grove, .ref z_season, .ref z_past, .ref z_tank, .ref z_pan, .ref z_cellar, .ref z_coop, .ref z_tape, .ref z_reader, .ref z_facts, .ref z_book, .ref z_spare, .int n_fp])), (z_tubes, .inr (10, [.ref t_to, .ref t_height, .ref t_member, .ref t_lengthHome, .ref t_runs, .ref t_leak, .ref t_vacuum, .ref t_reading, .int n_tb])), (t_reading, .inl (k_reading, 40, .inl w_reading_8))]) [0, 1, 2] (by decide) rfl
      have hK9 := hK.sub (tys' := []) [] rfl
      exact W.zret (ty := .boolean) (v := 1) hx hb hr rfl (fun t ht hW => ⟨⟨1, (), rfl, (Or.inl ⟨rfl, (lg_X11_gauge_0 n_tb v1 v2 yb h_2 t_5)⟩), ⟨w_reading_8, by rw [ht]; exact hP9, va_K.moved hW.alike hK9, hD9⟩⟩, hS.F ht⟩) hS.2.2 dX11_gauge_38
    · have t_5 : ¬ v2.toInt = (-1 : Int) := i_ne rfl (by decide) c_4
      refine lv_iload_n hx hb dX11_gauge_16 rfl (lv_at hl 2 rfl) ?_
      refine lv_iconst (v := 0) hx hb dX11_gauge_17 (by decide) ?_
      refine lv_bipush (v := 100) hx hb dX11_gauge_18 (by decide) ?_
      have hPc := hP.sub (ws' := []) [] rfl
      have hDc := hD.sub (ws' := []) [] (by decide) rfl
      have hKc := hK.sub (tys' := []) [] rfl
      have hFc := va_free (wc := []) hD hS hA [] rfl
      refine va_calli (va_runS (As := [.int v2, .int 0, .int 100]) (rest := []) ⟨hx, hb, hml, hown, htb⟩ (kX11_isWithin l dC dI H.size v2 0 100 ) ⟨callB_of 3 htb (gd_c m_355) rfl rfl rfl (htb _ m_1) (htb _ m_353) hdX11_isWithin ⟨(Nat.le_of_ble_eq_true rfl), (Nat.le_of_ble_eq_true rfl)⟩, htb _ m_354⟩ ⟨pcW_blind, pcW_at hPc hKc hDc hN⟩ rfl rfl hl.1 rfl (lv_room (Nat.le_of_ble_eq_true rfl)) dX11_gauge_20 ⟨(Nat.le_of_ble_eq_true rfl), (Nat.le_of_ble_eq_true rfl)⟩) hS (fun q _ h => hFc q h) hFc (fun r_9 u t H1 locs1 ht hvm h_10 hB hz1 hk1 hS1 => ?_)
      obtain ⟨hP1, hK1, hD1⟩ := hB
      rw [ht] at hP1
      obtain ⟨hPn, hDn⟩ := va_join (wr := [(h0, .inr (11, [.ref z_tubes, .ref z_grove, .ref z_season, .ref z_past, .ref z_tank, .ref z_pan, .ref z_cellar, .ref z_coop, .ref z_tape, .ref z_reader, .ref z_facts, .ref z_book, .ref z_spare, .int n_fp])), (t_reading, .inl (k_reading, 40, .inl f_reading)), (z_tubes, .inr (10, [.ref t_to, .ref t_height, .ref t_member, .ref t_lengthHome, .ref t_runs, .ref t_leak, .ref t_vacuum, .ref t_reading, .int n_tb]))]) (w1 := []) hP hD [] [0, 1, 2] rfl rfl (by decide) (by decide) hk1 hFc hP1 hD1
      clear hP1 hD1 hK1
      clear hP hD hS hPc hDc hKc hFc hk1 hz1 ht hvm
      clear t
      revert hS1 hPn hDn; generalize H1 = H; generalize locs1 = locs; intro hS hP hD
      change va_P (dC, dI) vwCl [(h0, .inr (11, [.ref z_tubes, .ref z_grove, .ref z_season, .ref z_past, .ref z_tank, .ref z_pan, .ref z_cellar, .ref z_coop, .ref z_tape, .ref z_reader, .ref z_facts, .ref z_book, .ref z_spare, .int n_fp])), (t_reading, .inl (k_reading, 40, .inl f_reading)), (z_tubes, .inr (10, [.ref t_to, .ref t_height, .ref t_member, .ref t_lengthHome, .ref t_runs, .ref t_leak, .ref t_vacuum, .ref t_reading, .int n_tb]))] H at hP
      change va_D A [(h0, .inr (11, [.ref z_tubes, .ref z_grove, .ref z_season, .ref z_past, .ref z_tank, .ref z_pan, .ref z_cellar, .ref z_coop, .ref z_tape, .ref z_reader, .ref z_facts, .ref z_book, .ref z_spare, .int n_fp])), (t_reading, .inl (k_reading, 40, .inl f_reading)), (z_tubes, .inr (10, [.ref t_to, .ref t_height, .ref t_member, .ref t_lengthHome, .ref t_runs, .ref t_leak, .ref t_vacuum, .ref t_reading, .int n_tb]))] at hD
      rcases h_10 with ⟨rfl, h_10⟩ | ⟨rfl, h_10⟩
      · refine lv_if_ne (tgt := 28) hx hb dX11_gauge_23 (by decide) ?_ (fun c_11 => absurd c_11 (by decide))
        intro _
        refine lv_aload_n hx hb dX11_gauge_28 rfl (lv_at hl 0 rfl) ?_
        refine va_get (D := (dC, dI)) (ci := 11) (v := .ref z_tubes) (C := RX11) (T := TX11) (N := 14) hx hb htb iX11 hown hK hP 0 rfl rfl 0 (Nat.le_of_ble_eq_true rfl) (htb _ m_302) (fun _ h9 => h9) rfl dX11_gauge_29 ?_
        refine lv_iload_n hx hb dX11_gauge_32 rfl (lv_at hl 1 rfl) ?_
        refine lv_iload_n hx hb dX11_gauge_33 rfl (lv_at hl 2 rfl) ?_
        have hPc := hP.sub (ws' := [(z_tubes, .inr (10, [.ref t_to, .ref t_height, .ref t_member, .ref t_lengthHome, .ref t_runs, .ref t_leak, .ref t_vacuum, .ref t_reading, .int n_tb])), (t_reading, .inl (k_reading, 40, .inl f_reading))]) [2, 1] rfl
        have hDc := hD.sub (ws' := [(z_tubes, .inr (10, [.ref t_to, .ref t_height, .ref t_member, .ref t_lengthHome, .ref t_runs, .ref t_leak, .ref t_vacuum, .ref t_reading, .int n_tb])), (t_reading, .inl (k_reading, 40, .inl f_reading))]) [2, 1] (by decide) rfl
        have hKc := hK.sub (tys' := [(k_reading, .int)]) [0] rfl
        have hFc := va_free (wc := [(z_tubes, .inr (10, [.ref t_to, .ref t_height, .ref t_member, .ref t_lengthHome, .ref t_runs, .ref t_leak, .ref t_vacuum, .ref t_reading, .int n_tb])), (t_reading, .inl (k_reading, 40, .inl f_reading))]) hD hS hA [2, 1] rfl
        refine va_callv (va_runV (C := RX10) (As := [.int v1, .int v2]) (rest := []) ⟨hx, hb, hml, hown, htb⟩ (kX10_setReading l dC dI H.size z_tubes t_to t_height t_member t_lengthHome t_runs t_leak t_vacuum t_reading n_tb k_reading f_reading v1 v2 yb) ⟨callB_of 2 htb (gd_c m_453) rfl rfl rfl (htb _ m_2) (htb _ m_450) hdX10_setReading ⟨(Nat.le_of_ble_eq_true rfl), (Nat.le_of_ble_eq_true rfl)⟩, htb _ m_451, htb _ m_452⟩ ⟨pcW_blind, va_recv hKc hPc (ci := 10) (q0 := 0) rfl rfl, pcW_at hPc hKc hDc hN⟩ rfl rfl hl.1 rfl (lv_room (Nat.le_of_ble_eq_true rfl)) dX11_gauge_34 ⟨(Nat.le_of_ble_eq_true rfl), (Nat.le_of_ble_eq_true rfl)⟩) hS (fun q _ h => hFc q h) hFc (fun u t H1 locs1 ht hvm h_13 hB hz1 hk1 hS1 => ?_)
        obtain ⟨w_reading_14, hP1, hK1, hD1⟩ := hB
        rw [ht] at hP1
        obtain ⟨hPn, hDn⟩ := va_join (wr := [(h0, .inr (11, [.ref z_tubes, .ref z_grove, .ref z_season, .ref z_past, .ref z_tank, .ref z_pan, .ref z_cellar, .ref z_coop, .ref z_tape, .ref z_reader, .ref z_facts, .ref z_book, .ref z_spare, .int n_fp]))]) (w1 := [(z_tubes, .inr (10, [.ref t_to, .ref t_height, .ref t_member, .ref t_lengthHome, .ref t_runs, .ref t_leak, .ref t_vacuum, .ref t_reading, .int n_tb])), (t_reading, .inl (k_reading, 40, .inl w_reading_14))]) hP hD [2, 1] [0] rfl rfl (by decide) (by decide) hk1 hFc hP1 hD1
        clear hP1 hD1 hK1
        clear hP hD hS hPc hDc hKc hFc hk1 hz1 ht hvm
        clear t
        revert hS1 hPn hDn; generalize H1 = H; generalize locs1 = locs; intro hS hP hD
        change va_P (dC, dI) vwCl [(h0, .inr (11, [.ref z_tubes, .ref z_grove, .ref z_season, .ref z_past, .ref z_tank, .ref z_pan, .ref z_cellar, .ref z_coop, .ref z_tape, .ref z_reader, .ref z_facts, .ref z_book, .ref z_spare, .int n_fp])), (z_tubes, .inr (10, [.ref t_to, .ref t_height, .ref t_member, .ref t_lengthHome, .ref t_runs, .ref t_leak, .ref t_vacuum, .ref t_reading, .int n_tb])), (t_reading, .inl (k_reading, 40, .inl w_reading_14))] H at hP
        change va_D A [(h0, .inr (11, [.ref z_tubes, .ref z_grove, .ref z_season, .ref z_past, .ref z_tank, .ref z_pan, .ref z_cellar, .ref z_coop, .ref z_tape, .ref z_reader, .ref z_facts, .ref z_book, .ref z_spare, .int n_fp])), (z_tubes, .inr (10, [.ref t_to, .ref t_height, .ref t_member, .ref t_lengthHome, .ref t_runs, .ref t_leak, .ref t_vacuum, .ref t_reading, .int n_tb])), (t_reading, .inl (k_reading, 40, .inl w_reading_14))] at hD
        refine lv_iconst (v := 1) hx hb dX11_gauge_37 (by decide) ?_
        refine W.widen (k := 0) (n := 0) (Nat.le_of_ble_eq_true rfl) (Nat.le_of_ble_eq_true rfl) ?_
        have hP9 := hP.sub (ws' := [(h0, .inr (11, [.ref z_tubes, .ref z_grove, .ref z_season, .ref z_past, .ref z_tank, .ref z_pan, .ref z_cellar, .ref z_coop, .ref z_tape, .ref z_reader, .ref z_facts, .ref z_book, .ref z_spare, .int n_fp])), (z_tubes, .inr (10, [.ref t_to, .ref t_height, .ref t_member, .ref t_lengthHome, .ref t_runs, .ref t_leak, .ref t_vacuum, .ref t_reading, .int n_tb])), (t_reading, .inl (k_reading, 40, .inl w_reading_14))]) [0, 1, 2] rfl
        have hD9 := hD.sub (ws' := [(h0, .inr (11, [.ref z_tubes, .ref z_grove, .ref z_season, .ref z_past, .ref z_tank, .ref z_pan, .ref z_cellar, .ref z_coop, .ref z_tape, .ref z_reader, .ref z_facts, .ref z_book, .ref z_spare, .int n_fp])), (z_tubes, .inr (10, [.ref t_to, .ref t_height, .ref t_member, .ref t_lengthHome, .ref t_runs, .ref t_leak, .ref t_vacuum, .ref t_reading, .int n_tb])), (t_reading, .inl (k_reading, 40, .inl w_reading_14))]) [0, 1, 2] (by decide) rfl
        have hK9 := hK.sub (tys' := []) [] rfl
        exact W.zret (ty := .boolean) (v := 1) hx hb hr rfl (fun t ht hW => ⟨⟨1, (), rfl, (Or.inl ⟨rfl, (lg_X11_gauge_1 n_tb v1 v2 yb h_2 t_5 h_10)⟩), ⟨w_reading_14, by rw [ht]; exact hP9, va_K.moved hW.alike hK9, hD9⟩⟩, hS.F ht⟩) hS.2.2 dX11_gauge_38
      · refine lv_if_ne (tgt := 28) hx hb dX11_gauge_23 (by decide) (fun c_15 => absurd (by decide) c_15) ?_
        intro _
        refine lv_iconst (v := 0) hx hb dX11_gauge_26 (by decide) ?_
        refine W.widen (k := 0) (n := 0) (Nat.le_of_ble_eq_true rfl) (Nat.le_of_ble_eq_true rfl) ?_
        have hP9 := hP.sub (ws' := [(h0, .inr (11, [.ref z_tubes, .ref z_grove, .ref z_season, .ref z_past, .ref z_tank, .ref z_pan, .ref z_cellar, .ref z_coop, .ref z_tape, .ref z_reader, .ref z_facts, .ref z_book, .ref z_spare, .int n_fp])), (z_tubes, .inr (10, [.ref t_to, .ref t_height, .ref t_member, .ref t_lengthHome, .ref t_runs, .ref t_leak, .ref t_vacuum, .ref t_reading, .int n_tb])), (t_reading, .inl (k_reading, 40, .inl f_reading))]) [0, 2, 1] rfl
        have hD9 := hD.sub (ws' := [(h0, .inr (11, [.ref z_tubes, .ref z_grove, .ref z_season, .ref z_past, .ref z_tank, .ref z_pan, .ref z_cellar, .ref z_coop, .ref z_tape, .ref z_reader, .ref z_facts, .ref z_book, .ref z_spare, .int n_fp])), (z_tubes, .inr (10, [.ref t_to, .ref t_height, .ref t_member, .ref t_lengthHome, .ref t_runs, .ref t_leak, .ref t_vacuum, .ref t_reading, .int n_tb])), (t_reading, .inl (k_reading, 40, .inl f_reading))]) [0, 2, 1] (by decide) rfl
        have hK9 := hK.sub (tys' := []) [] rfl
        exact W.zret (ty := .boolean) (v := 0) hx hb hr rfl (fun t ht hW => ⟨⟨0, (), rfl, (Or.inr (⟨rfl, (lg_X11_gauge_2 n_tb v1 v2 yb h_2 t_5 h_10)⟩)), ⟨f_reading, by rw [ht]; exact hP9, va_K.moved hW.alike hK9, hD9⟩⟩, hS.F ht⟩) hS.2.2 dX11_gauge_27
  · refine lv_if_eq (tgt := 26) hx hb dX11_gauge_8 (by decide) ?_ (fun c_16 => absurd (by decide) c_16)
    intro _
    refine lv_iconst (v := 0) hx hb dX11_gauge_26 (by decide) ?_
    refine W.widen (k := 0) (n := 0) (Nat.le_of_ble_eq_true rfl) (Nat.le_of_ble_eq_true rfl) ?_
    have hP9 := hP.sub (ws' := [(h0, .inr (11, [.ref z_tubes, .ref z_grove, .ref z_season, .ref z_past, .ref z_tank, .ref z_pan, .ref z_cellar, .ref z_coop, .ref z_tape, .ref z_reader, .ref z_facts, .ref z_book, .ref z_spare, .int n_fp])), (z_tubes, .inr (10, [.ref t_to, .ref t_height, .ref t_member, .ref t_lengthHome, .ref t_runs, .ref t_leak, .ref t_vacuum, .ref t_reading, .int n_tb])), (t_reading, .inl (k_reading, 40, .inl f_reading))]) [0, 2, 1] rfl
    have hD9 := hD.sub (ws' := [(h0, .inr (11, [.ref z_tubes, .ref z_grove, .ref z_season, .ref z_past, .ref z_tank, .ref z_pan, .ref z_cellar, .ref z_coop, .ref z_tape, .ref z_reader, .ref z_facts, .ref z_book, .ref z_spare, .int n_fp])), (z_tubes, .inr (10, [.ref t_to, .ref t_height, .ref t_member, .ref t_lengthHome, .ref t_runs, .ref t_leak, .ref t_vacuum, .ref t_reading, .int n_tb])), (t_reading, .inl (k_reading, 40, .inl f_reading))]) [0, 2, 1] (by decide) rfl
    have hK9 := hK.sub (tys' := []) [] rfl
    exact W.zret (ty := .boolean) (v := 0) hx hb hr rfl (fun t ht hW => ⟨⟨0, (), rfl, (Or.inr (⟨rfl, (lg_X11_gauge_3 n_tb v1 yb h_2)⟩)), ⟨f_reading, by rw [ht]; exact hP9, va_K.moved hW.alike hK9, hD9⟩⟩, hS.F ht⟩) hS.2.2 dX11_gauge_27

theorem lg_X11_wood_0 (v1 : Int32) (h_2 : (0 : Int) ≤ v1.toInt ∧ v1.toInt ≤ (10000 : Int)) (h_5 : True) : True := by
  have := rg_rng v1; trivial
theorem lg_X11_wood_1 (v1 : Int32) (h_2 : ¬ ((0 : Int) ≤ v1.toInt ∧ v1.toInt ≤ (10000 : Int))) : True := by
  have := rg_rng v1; trivial
set_option maxHeartbeats 4000000 in
set_option maxRecDepth 100000 in
theorem kX11_wood (l : Launch) (dC : Nat → ClassId) (dI : Nat → Nat → Nat) (sz : Nat) (h0 : Nat) (z_tubes : Nat) (z_grove : Nat) (z_season : Nat) (z_past : Nat) (z_tank : Nat) (z_pan : Nat) (z_cellar : Nat) (z_coop : Nat) (z_tape : Nat) (z_reader : Nat) (z_facts : Nat) (z_book : Nat) (z_spare : Nat) (n_fp : Int32) (n_su : Int64) (n_pa : Int32) (n_he : Int32) (n_mi : Int32) (n_wo : Int32) (v1 : Int32) : Met l yX11_wood (Cond.code yX11_wood cX11_wood 2 (some .int) :: bg) ({ frames := 1, cells := 0, slots := 0, locals := 22 }) (pcW dC dI [.ref h0, .int v1] sz [(h0, .inr (11, [.ref z_tubes, .ref z_grove, .ref z_season, .ref z_past, .ref z_tank, .ref z_pan, .ref z_cellar, .ref z_coop, .ref z_tape, .ref z_reader, .ref z_facts, .ref z_book, .ref z_spare, .int n_fp])), (z_pan, .inr (3, [.long n_su, .int n_pa, .int n_he, .int n_mi, .int n_wo]))] []) (va_Qi (fun (r : Int32) (u : Unit) => True) (fun (u : Unit) (t : State) => ∃ (w_su : Int64) (w_pa : Int32) (w_he : Int32) (w_mi : Int32) (w_wo : Int32), va_P (dC, dI) vwCl [(h0, .inr (11, [.ref z_tubes, .ref z_grove, .ref z_season, .ref z_past, .ref z_tank, .ref z_pan, .ref z_cellar, .ref z_coop, .ref z_tape, .ref z_reader, .ref z_facts, .ref z_book, .ref z_spare, .int n_fp])), (z_pan, .inr (3, [.long w_su, .int w_pa, .int w_he, .int w_mi, .int w_wo]))] t.heap ∧ va_K (dC, dI) vwCl [] t ∧ va_D (va_A [(h0, .inr (11, [.ref z_tubes, .ref z_grove, .ref z_season, .ref z_past, .ref z_tank, .ref z_pan, .ref z_cellar, .ref z_coop, .ref z_tape, .ref z_reader, .ref z_facts, .ref z_book, .ref z_spare, .int n_fp])), (z_pan, .inr (3, [.long n_su, .int n_pa, .int n_he, .int n_mi, .int n_wo]))] sz) [(h0, .inr (11, [.ref z_tubes, .ref z_grove, .ref z_season, .ref z_past, .ref z_tank, .ref z_pan, .ref z_cellar, .ref z_coop, .ref z_tape, .ref z_reader, .ref z_facts, .ref z_book, .ref z_spare, .int n_fp])), (z_pan, .inr (3, [.long w_su, .int w_pa, .int w_he, .int w_mi, .int w_wo]))]) (va_A [(h0, .inr (11, [.ref z_tubes, .ref z_grove, .ref z_season, .ref z_past, .ref z_tank, .ref z_pan, .ref z_cellar, .ref z_coop, .ref z_tape, .ref z_reader, .ref z_facts, .ref z_book, .ref z_spare, .int n_fp])), (z_pan, .inr (3, [.long n_su, .int n_pa, .int n_he, .int n_mi, .int n_wo]))] sz)) 0 0 (va_A [(h0, .inr (11, [.ref z_tubes, .ref z_grove, .ref z_season, .ref z_past, .ref z_tank, .ref z_pan, .ref z_cellar, .ref z_coop, .ref z_tape, .ref z_reader, .ref z_facts, .ref z_book, .ref z_spare, .int n_fp])), (z_pan, .inr (3, [.long n_su, .int n_pa, .int n_he, .int n_mi, .int n_wo]))] sz) := by
  refine Met.ofW (cc := cX11_wood) (maxL := 2) (ret := (some .int)) pnX11 rfl ?_
  intro p e s m args below meth c s₁ B hml hv
  obtain ⟨rfl, hsz, hP, hK, hD0, hN⟩ := hv
  have hx := B.exec
  have hb := B.bytes
  have hr := B.returns
  have htb : ∀ w ∈ bg, w.before [.ref h0, .int v1].toArray s = true := fun w h => atoms_spec (ws := Cond.code yX11_wood cX11_wood 2 (some .int) :: bg) B.pre w (List.mem_cons_of_mem _ h)
  have hown : s.vm.findClass RX11 = some m.cls := findClass_of_methodNamed B.named
  have hlocks := B.notSynchronized
  subst hsz
  have hD := hD0.self (sz := s.heap.size)
  generalize hAe : va_A [(h0, .inr (11, [.ref z_tubes, .ref z_grove, .ref z_season, .ref z_past, .ref z_tank, .ref z_pan, .ref z_cellar, .ref z_coop, .ref z_tape, .ref z_reader, .ref z_facts, .ref z_book, .ref z_spare, .int n_fp])), (z_pan, .inr (3, [.long n_su, .int n_pa, .int n_he, .int n_mi, .int n_wo]))] s.heap.size = A at hD ⊢
  have hA : ∀ q : Nat, s.heap.size ≤ q → A q := fun q h => by rw [← hAe]; exact Or.inr h
  have hS : va_S A s.heap s.heap [] := va_S.rf
  have hl := lv_entry ([.ref h0, .int v1]) (n := 2) (Nat.le_of_ble_eq_true rfl)
  rw [lg_entry_eq]
  generalize (lg_sl ([.ref h0, .int v1]) ++ List.replicate (2 - (lg_sl ([.ref h0, .int v1])).length) Slot.unset).toArray = ls at hl ⊢
  change lv_has ls 2 [(0, .ref h0), (1, .int v1)] at hl
  clear hD0 hAe
  refine go0 (wsP := fun H => va_P (dC, dI) vwCl [(h0, .inr (11, [.ref z_tubes, .ref z_grove, .ref z_season, .ref z_past, .ref z_tank, .ref z_pan, .ref z_cellar, .ref z_coop, .ref z_tape, .ref z_reader, .ref z_facts, .ref z_book, .ref z_spare, .int n_fp])), (z_pan, .inr (3, [.long n_su, .int n_pa, .int n_he, .int n_mi, .int n_wo]))] H) hP hS ?_
  clear hP hS; intro H locs hP hS
  change va_P (dC, dI) vwCl [(h0, .inr (11, [.ref z_tubes, .ref z_grove, .ref z_season, .ref z_past, .ref z_tank, .ref z_pan, .ref z_cellar, .ref z_coop, .ref z_tape, .ref z_reader, .ref z_facts, .ref z_book, .ref z_spare, .int n_fp])), (z_pan, .inr (3, [.long n_su, .int n_pa, .int n_he, .int n_mi, .int n_wo]))] H at hP
  refine lv_iload_n hx hb dX11_wood_0 rfl (lv_at hl 1 rfl) ?_
  refine lv_iconst (v := 0) hx hb dX11_wood_1 (by decide) ?_
  refine lv_sipush (v := 10000) hx hb dX11_wood_2 (by decide) ?_
  have hPc := hP.sub (ws' := []) [] rfl
  have hDc := hD.sub (ws' := []) [] (by decide) rfl
  have hKc := hK.sub (tys' := []) [] rfl
  have hFc := va_free (wc := []) hD hS hA [] rfl
  refine va_calli (va_runS (As := [.int v1, .int 0, .int 10000]) (rest := []) ⟨hx, hb, hml, hown, htb⟩ (kX11_isWithin l dC dI H.size v1 0 10000 ) ⟨callB_of 3 htb (gd_c m_355) rfl rfl rfl (htb _ m_1) (htb _ m_353) hdX11_isWithin ⟨(Nat.le_of_ble_eq_true rfl), (Nat.le_of_ble_eq_true rfl)⟩, htb _ m_354⟩ ⟨pcW_blind, pcW_at hPc hKc hDc hN⟩ rfl rfl hl.1 rfl (lv_room (Nat.le_of_ble_eq_true rfl)) dX11_wood_5 ⟨(Nat.le_of_ble_eq_true rfl), (Nat.le_of_ble_eq_true rfl)⟩) hS (fun q _ h => hFc q h) hFc (fun r_1 u t H1 locs1 ht hvm h_2 hB hz1 hk1 hS1 => ?_)
  obtain ⟨hP1, hK1, hD1⟩ := hB
  rw [ht] at hP1
  obtain ⟨hPn, hDn⟩ := va_join (wr := [(h0, .inr (11, [.ref z_tubes, .ref z_grove, .ref z_season, .ref z_past, .ref z_tank, .ref z_pan, .ref z_cellar, .ref z_coop, .ref z_tape, .ref z_reader, .ref z_facts, .ref z_book, .ref z_spare, .int n_fp])), (z_pan, .inr (3, [.long n_su, .int n_pa, .int n_he, .int n_mi, .int n_wo]))]) (w1 := []) hP hD [] [0, 1] rfl rfl (by decide) (by decide) hk1 hFc hP1 hD1
  clear hP1 hD1 hK1
  clear hP hD hS hPc hDc hKc hFc hk1 hz1 ht hvm
  clear t
  revert hS1 hPn hDn; generalize H1 = H; generalize locs1 = locs; intro hS hP hD
  change va_P (dC, dI) vwCl [(h0, .inr (11, [.ref z_tubes, .ref z_grove, .ref z_season, .ref z_past, .ref z_tank, .ref z_pan, .ref z_cellar, .ref z_coop, .ref z_tape, .ref z_reader, .ref z_facts, .ref z_book, .ref z_spare, .int n_fp])), (z_pan, .inr (3, [.long n_su, .int n_pa, .int n_he, .int n_mi, .int n_wo]))] H at hP
  change va_D A [(h0, .inr (11, [.ref z_tubes, .ref z_grove, .ref z_season, .ref z_past, .ref z_tank, .ref z_pan, .ref z_cellar, .ref z_coop, .ref z_tape, .ref z_reader, .ref z_facts, .ref z_book, .ref z_spare, .int n_fp])), (z_pan, .inr (3, [.long n_su, .int n_pa, .int n_he, .int n_mi, .int n_wo]))] at hD
  rcases h_2 with ⟨rfl, h_2⟩ | ⟨rfl, h_2⟩
  · refine lv_if_eq (tgt := 22) hx hb dX11_wood_8 (by decide) (fun c_3 => absurd c_3 (by decide)) ?_
    intro _
    refine lv_aload_n hx hb dX11_wood_11 rfl (lv_at hl 0 rfl) ?_
    refine va_get (D := (dC, dI)) (ci := 11) (v := .ref z_pan) (C := RX11) (T := TX11) (N := 14) hx hb htb iX11 hown hK hP 0 rfl rfl 5 (Nat.le_of_ble_eq_true rfl) (htb _ m_307) (fun _ h9 => h9) rfl dX11_wood_12 ?_
    refine lv_iload_n hx hb dX11_wood_15 rfl (lv_at hl 1 rfl) ?_
    have hPc := hP.sub (ws' := [(z_pan, .inr (3, [.long n_su, .int n_pa, .int n_he, .int n_mi, .int n_wo]))]) [1] rfl
    have hDc := hD.sub (ws' := [(z_pan, .inr (3, [.long n_su, .int n_pa, .int n_he, .int n_mi, .int n_wo]))]) [1] (by decide) rfl
    have hKc := hK.sub (tys' := []) [] rfl
    have hFc := va_free (wc := [(z_pan, .inr (3, [.long n_su, .int n_pa, .int n_he, .int n_mi, .int n_wo]))]) hD hS hA [1] rfl
    refine va_calli (va_runV (C := RX3) (As := [.int v1]) (rest := []) ⟨hx, hb, hml, hown, htb⟩ (kX3_stack l dC dI H.size z_pan n_su n_pa n_he n_mi n_wo v1 ) ⟨callB_of 1 htb (gd_c m_633) rfl rfl rfl (htb _ m_7) (htb _ m_630) hdX3_stack ⟨(Nat.le_of_ble_eq_true rfl), (Nat.le_of_ble_eq_true rfl)⟩, htb _ m_631, htb _ m_632⟩ ⟨pcW_blind, va_recv hKc hPc (ci := 3) (q0 := 0) rfl rfl, pcW_at hPc hKc hDc hN⟩ rfl rfl hl.1 rfl (lv_room (Nat.le_of_ble_eq_true rfl)) dX11_wood_16 ⟨(Nat.le_of_ble_eq_true rfl), (Nat.le_of_ble_eq_true rfl)⟩) hS (fun q _ h => hFc q h) hFc (fun r_4 u t H1 locs1 ht hvm h_5 hB hz1 hk1 hS1 => ?_)
    obtain ⟨w_su_6, w_pa_7, w_he_8, w_mi_9, w_wo_10, hP1, hK1, hD1⟩ := hB
    rw [ht] at hP1
    obtain ⟨hPn, hDn⟩ := va_join (wr := [(h0, .inr (11, [.ref z_tubes, .ref z_grove, .ref z_season, .ref z_past, .ref z_tank, .ref z_pan, .ref z_cellar, .ref z_coop, .ref z_tape, .ref z_reader, .ref z_facts, .ref z_book, .ref z_spare, .int n_fp]))]) (w1 := [(z_pan, .inr (3, [.long w_su_6, .int w_pa_7, .int w_he_8, .int w_mi_9, .int w_wo_10]))]) hP hD [1] [0] rfl rfl (by decide) (by decide) hk1 hFc hP1 hD1
    clear hP1 hD1 hK1
    clear hP hD hS hPc hDc hKc hFc hk1 hz1 ht hvm
    clear t
    revert hS1 hPn hDn; generalize H1 = H; generalize locs1 = locs; intro hS hP hD
    change va_P (dC, dI) vwCl [(h0, .inr (11, [.ref z_tubes, .ref z_grove, .ref z_season, .ref z_past, .ref z_tank, .ref z_pan, .ref z_cellar, .ref z_coop, .ref z_tape, .ref z_reader, .ref z_facts, .ref z_book, .ref z_spare, .int n_fp])), (z_pan, .inr (3, [.long w_su_6, .int w_pa_7, .int w_he_8, .int w_mi_9, .int w_wo_10]))] H at hP
    change va_D A [(h0, .inr (11, [.ref z_tubes, .ref z_grove, .ref z_season, .ref z_past, .ref z_tank, .ref z_pan, .ref z_cellar, .ref z_coop, .ref z_tape, .ref z_reader, .ref z_facts, .ref z_book, .ref z_spare, .int n_fp])), (z_pan, .inr (3, [.long w_su_6, .int w_pa_7, .int w_he_8, .int w_mi_9, .int w_wo_10]))] at hD
    refine lv_goto (tgt := 23) hx hb dX11_wood_19 (by decide) ?_
    refine W.widen (k := 0) (n := 0) (Nat.le_of_ble_eq_true rfl) (Nat.le_of_ble_eq_true rfl) ?_
    have hP9 := hP.sub (ws' := [(h0, .inr (11, [.ref z_tubes, .ref z_grove, .ref z_season, .ref z_past, .ref z_tank, .ref z_pan, .ref z_cellar, .ref z_coop, .ref z_tape, .ref z_reader, .ref z_facts, .ref z_book, .ref z_spare, .int n_fp])), (z_pan, .inr (3, [.long w_su_6, .int w_pa_7, .int w_he_8, .int w_mi_9, .int w_wo_10]))]) [0, 1] rfl
    have hD9 := hD.sub (ws' := [(h0, .inr (11, [.ref z_tubes, .ref z_grove, .ref z_season, .ref z_past, .ref z_tank, .ref z_pan, .ref z_cellar, .ref z_coop, .ref z_tape, .ref z_reader, .ref z_facts, .ref z_book, .ref z_spare, .int n_fp])), (z_pan, .inr (3, [.long w_su_6, .int w_pa_7, .int w_he_8, .int w_mi_9, .int w_wo_10]))]) [0, 1] (by decide) rfl
    have hK9 := hK.sub (tys' := []) [] rfl
    exact W.iret (v := r_4) hx hb hr (fun t ht hW => ⟨⟨r_4, (), rfl, (lg_X11_wood_0 v1 h_2 h_5), ⟨w_su_6, w_pa_7, w_he_8, w_mi_9, w_wo_10, by rw [ht]; exact hP9, va_K.moved hW.alike hK9, hD9⟩⟩, hS.F ht⟩) hS.2.2 dX11_wood_23
  · refine lv_if_eq (tgt := 22) hx hb dX11_wood_8 (by decide) ?_ (fun c_11 => absurd (by decide) c_11)
    intro _
    refine lv_iconst (v := (-1)) hx hb dX11_wood_22 (by decide) ?_
    refine W.widen (k := 0) (n := 0) (Nat.le_of_ble_eq_true rfl) (Nat.le_of_ble_eq_true rfl) ?_
    have hP9 := hP.sub (ws' := [(h0, .inr (11, [.ref z_tubes, .ref z_grove, .ref z_season, .ref z_past, .ref z_tank, .ref z_pan, .ref z_cellar, .ref z_coop, .ref z_tape, .ref z_reader, .ref z_facts, .ref z_book, .ref z_spare, .int n_fp])), (z_pan, .inr (3, [.long n_su, .int n_pa, .int n_he, .int n_mi, .int n_wo]))]) [0, 1] rfl
    have hD9 := hD.sub (ws' := [(h0, .inr (11, [.ref z_tubes, .ref z_grove, .ref z_season, .ref z_past, .ref z_tank, .ref z_pan, .ref z_cellar, .ref z_coop, .ref z_tape, .ref z_reader, .ref z_facts, .ref z_book, .ref z_spare, .int n_fp])), (z_pan, .inr (3, [.long n_su, .int n_pa, .int n_he, .int n_mi, .int n_wo]))]) [0, 1] (by decide) rfl
    have hK9 := hK.sub (tys' := []) [] rfl
    exact W.iret (v := (-1)) hx hb hr (fun t ht hW => ⟨⟨(-1), (), rfl, (lg_X11_wood_1 v1 h_2), ⟨n_su, n_pa, n_he, n_mi, n_wo, by rw [ht]; exact hP9, va_K.moved hW.alike hK9, hD9⟩⟩, hS.F ht⟩) hS.2.2 dX11_wood_23

theorem lg_X11_pan_0  (h_2 : True) : True := by
  trivial
set_option maxHeartbeats 4000000 in
set_option maxRecDepth 100000 in
theorem kX11_pan (l : Launch) (dC : Nat → ClassId) (dI : Nat → Nat → Nat) (sz : Nat) (h0 : Nat) (z_tubes : Nat) (z_grove : Nat) (z_season : Nat) (z_past : Nat) (z_tank : Nat) (z_pan : Nat) (z_cellar : Nat) (z_coop : Nat) (z_tape : Nat) (z_reader : Nat) (z_facts : Nat) (z_book : Nat) (z_spare : Nat) (n_fp : Int32) (n_su : Int64) (n_pa : Int32) (n_he : Int32) (n_mi : Int32) (n_wo : Int32) (v1 : Int32) : Met l yX11_pan (Cond.code yX11_pan cX11_pan 2 (some .int) :: bg) ({ frames := 3, cells := 0, slots := 0, locals := 61 }) (pcW dC dI [.ref h0, .int v1] sz [(h0, .inr (11, [.ref z_tubes, .ref z_grove, .ref z_season, .ref z_past, .ref z_tank, .ref z_pan, .ref z_cellar, .ref z_coop, .ref z_tape, .ref z_reader, .ref z_facts, .ref z_book, .ref z_spare, .int n_fp])), (z_pan, .inr (3, [.long n_su, .int n_pa, .int n_he, .int n_mi, .int n_wo]))] []) (va_Qi (fun (r : Int32) (u : Unit) => True) (fun (u : Unit) (t : State) => va_P (dC, dI) vwCl [(h0, .inr (11, [.ref z_tubes, .ref z_grove, .ref z_season, .ref z_past, .ref z_tank, .ref z_pan, .ref z_cellar, .ref z_coop, .ref z_tape, .ref z_reader, .ref z_facts, .ref z_book, .ref z_spare, .int n_fp])), (z_pan, .inr (3, [.long n_su, .int n_pa, .int n_he, .int n_mi, .int n_wo]))] t.heap ∧ va_K (dC, dI) vwCl [] t ∧ va_D (va_A [(h0, .inr (11, [.ref z_tubes, .ref z_grove, .ref z_season, .ref z_past, .ref z_tank, .ref z_pan, .ref z_cellar, .ref z_coop, .ref z_tape, .ref z_reader, .ref z_facts, .ref z_book, .ref z_spare, .int n_fp])), (z_pan, .inr (3, [.long n_su, .int n_pa, .int n_he, .int n_mi, .int n_wo]))] sz) [(h0, .inr (11, [.ref z_tubes, .ref z_grove, .ref z_season, .ref z_past, .ref z_tank, .ref z_pan, .ref z_cellar, .ref z_coop, .ref z_tape, .ref z_reader, .ref z_facts, .ref z_book, .ref z_spare, .int n_fp])), (z_pan, .inr (3, [.long n_su, .int n_pa, .int n_he, .int n_mi, .int n_wo]))]) (va_A [(h0, .inr (11, [.ref z_tubes, .ref z_grove, .ref z_season, .ref z_past, .ref z_tank, .ref z_pan, .ref z_cellar, .ref z_coop, .ref z_tape, .ref z_reader, .ref z_facts, .ref z_book, .ref z_spare, .int n_fp])), (z_pan, .inr (3, [.long n_su, .int n_pa, .int n_he, .int n_mi, .int n_wo]))] sz)) 0 0 (va_A [(h0, .inr (11, [.ref z_tubes, .ref z_grove, .ref z_season, .ref z_past, .ref z_tank, .ref z_pan, .ref z_cellar, .ref z_coop, .ref z_tape, .ref z_reader, .ref z_facts, .ref z_book, .ref z_spare, .int n_fp])), (z_pan, .inr (3, [.long n_su, .int n_pa, .int n_he, .int n_mi, .int n_wo]))] sz) := by
  refine Met.ofW (cc := cX11_pan) (maxL := 2) (ret := (some .int)) pnX11 rfl ?_
  intro p e s m args below meth c s₁ B hml hv
  obtain ⟨rfl, hsz, hP, hK, hD0, hN⟩ := hv
  have hx := B.exec
  have hb := B.bytes
  have hr := B.returns
  have htb : ∀ w ∈ bg, w.before [.ref h0, .int v1].toArray s = true := fun w h => atoms_spec (ws := Cond.code yX11_pan cX11_pan 2 (some .int) :: bg) B.pre w (List.mem_cons_of_mem _ h)
  have hown : s.vm.findClass RX11 = some m.cls := findClass_of_methodNamed B.named
  have hlocks := B.notSynchronized
  subst hsz
  have hD := hD0.self (sz := s.heap.size)
  generalize hAe : va_A [(h0, .inr (11, [.ref z_tubes, .ref z_grove, .ref z_season, .ref z_past, .ref z_tank, .ref z_pan, .ref z_cellar, .ref z_coop, .ref z_tape, .ref z_reader, .ref z_facts, .ref z_book, .ref z_spare, .int n_fp])), (z_pan, .inr (3, [.long n_su, .int n_pa, .int n_he, .int n_mi, .int n_wo]))] s.heap.size = A at hD ⊢
  have hA : ∀ q : Nat, s.heap.size ≤ q → A q := fun q h => by rw [← hAe]; exact Or.inr h
  have hS : va_S A s.heap s.heap [] := va_S.rf
  have hl := lv_entry ([.ref h0, .int v1]) (n := 2) (Nat.le_of_ble_eq_true rfl)
  rw [lg_entry_eq]
  generalize (lg_sl ([.ref h0, .int v1]) ++ List.replicate (2 - (lg_sl ([.ref h0, .int v1])).length) Slot.unset).toArray = ls at hl ⊢
  change lv_has ls 2 [(0, .ref h0), (1, .int v1)] at hl
  clear hD0 hAe
  refine go0 (wsP := fun H => va_P (dC, dI) vwCl [(h0, .inr (11, [.ref z_tubes, .ref z_grove, .ref z_season, .ref z_past, .ref z_tank, .ref z_pan, .ref z_cellar, .ref z_coop, .ref z_tape, .ref z_reader, .ref z_facts, .ref z_book, .ref z_spare, .int n_fp])), (z_pan, .inr (3, [.long n_su, .int n_pa, .int n_he, .int n_mi, .int n_wo]))] H) hP hS ?_
  clear hP hS; intro H locs hP hS
  change va_P (dC, dI) vwCl [(h0, .inr (11, [.ref z_tubes, .ref z_grove, .ref z_season, .ref z_past, .ref z_tank, .ref z_pan, .ref z_cellar, .ref z_coop, .ref z_tape, .ref z_reader, .ref z_facts, .ref z_book, .ref z_spare, .int n_fp])), (z_pan, .inr (3, [.long n_su, .int n_pa, .int n_he, .int n_mi, .int n_wo]))] H at hP
  refine lv_aload_n hx hb dX11_pan_0 rfl (lv_at hl 0 rfl) ?_
  refine va_get (D := (dC, dI)) (ci := 11) (v := .ref z_pan) (C := RX11) (T := TX11) (N := 14) hx hb htb iX11 hown hK hP 0 rfl rfl 5 (Nat.le_of_ble_eq_true rfl) (htb _ m_307) (fun _ h9 => h9) rfl dX11_pan_1 ?_
  refine lv_iload_n hx hb dX11_pan_4 rfl (lv_at hl 1 rfl) ?_
  have hPc := hP.sub (ws' := [(z_pan, .inr (3, [.long n_su, .int n_pa, .int n_he, .int n_mi, .int n_wo]))]) [1] rfl
  have hDc := hD.sub (ws' := [(z_pan, .inr (3, [.long n_su, .int n_pa, .int n_he, .int n_mi, .int n_wo]))]) [1] (by decide) rfl
  have hKc := hK.sub (tys' := []) [] rfl
  have hFc := va_free (wc := [(z_pan, .inr (3, [.long n_su, .int n_pa, .int n_he, .int n_mi, .int n_wo]))]) hD hS hA [1] rfl
  refine va_calli (va_runV (C := RX3) (As := [.int v1]) (rest := []) ⟨hx, hb, hml, hown, htb⟩ (kX3_tell l dC dI H.size z_pan n_su n_pa n_he n_mi n_wo v1 ) ⟨callB_of 1 htb (gd_c m_701) rfl rfl rfl (htb _ m_7) (htb _ m_698) hdX3_tell ⟨(Nat.le_of_ble_eq_true rfl), (Nat.le_of_ble_eq_true rfl)⟩, htb _ m_699, htb _ m_700⟩ ⟨pcW_blind, va_recv hKc hPc (ci := 3) (q0 := 0) rfl rfl, pcW_at hPc hKc hDc hN⟩ rfl rfl hl.1 rfl (lv_room (Nat.le_of_ble_eq_true rfl)) dX11_pan_5 ⟨(Nat.le_of_ble_eq_true rfl), (Nat.le_of_ble_eq_true rfl)⟩) hS (fun q _ h => hFc q h) hFc (fun r_1 u t H1 locs1 ht hvm h_2 hB hz1 hk1 hS1 => ?_)
  obtain ⟨hP1, hK1, hD1⟩ := hB
  rw [ht] at hP1
  obtain ⟨hPn, hDn⟩ := va_join (wr := [(h0, .inr (11, [.ref z_tubes, .ref z_grove, .ref z_season, .ref z_past, .ref z_tank, .ref z_pan, .ref z_cellar, .ref z_coop, .ref z_tape, .ref z_reader, .ref z_facts, .ref z_book, .ref z_spare, .int n_fp]))]) (w1 := [(z_pan, .inr (3, [.long n_su, .int n_pa, .int n_he, .int n_mi, .int n_wo]))]) hP hD [1] [0] rfl rfl (by decide) (by decide) hk1 hFc hP1 hD1
  clear hP1 hD1 hK1
  clear hP hD hS hPc hDc hKc hFc hk1 hz1 ht hvm
  clear t
  revert hS1 hPn hDn; generalize H1 = H; generalize locs1 = locs; intro hS hP hD
  change va_P (dC, dI) vwCl [(h0, .inr (11, [.ref z_tubes, .ref z_grove, .ref z_season, .ref z_past, .ref z_tank, .ref z_pan, .ref z_cellar, .ref z_coop, .ref z_tape, .ref z_reader, .ref z_facts, .ref z_book, .ref z_spare, .int n_fp])), (z_pan, .inr (3, [.long n_su, .int n_pa, .int n_he, .int n_mi, .int n_wo]))] H at hP
  change va_D A [(h0, .inr (11, [.ref z_tubes, .ref z_grove, .ref z_season, .ref z_past, .ref z_tank, .ref z_pan, .ref z_cellar, .ref z_coop, .ref z_tape, .ref z_reader, .ref z_facts, .ref z_book, .ref z_spare, .int n_fp])), (z_pan, .inr (3, [.long n_su, .int n_pa, .int n_he, .int n_mi, .int n_wo]))] at hD
  refine W.widen (k := 0) (n := 0) (Nat.le_of_ble_eq_true rfl) (Nat.le_of_ble_eq_true rfl) ?_
  have hP9 := hP.sub (ws' := [(h0, .inr (11, [.ref z_tubes, .ref z_grove, .ref z_season, .ref z_past, .ref z_tank, .ref z_pan, .ref z_cellar, .ref z_coop, .ref z_tape, .ref z_reader, .ref z_facts, .ref z_book, .ref z_spare, .int n_fp])), (z_pan, .inr (3, [.long n_su, .int n_pa, .int n_he, .int n_mi, .int n_wo]))]) [0, 1] rfl
  have hD9 := hD.sub (ws' := [(h0, .inr (11, [.ref z_tubes, .ref z_grove, .ref z_season, .ref z_past, .ref z_tank, .ref z_pan, .ref z_cellar, .ref z_coop, .ref z_tape, .ref z_reader, .ref z_facts, .ref z_book, .ref z_spare, .int n_fp])), (z_pan, .inr (3, [.long n_su, .int n_pa, .int n_he, .int n_mi, .int n_wo]))]) [0, 1] (by decide) rfl
  have hK9 := hK.sub (tys' := []) [] rfl
  exact W.iret (v := r_1) hx hb hr (fun t ht hW => ⟨⟨r_1, (), rfl, (lg_X11_pan_0 h_2), ⟨by rw [ht]; exact hP9, va_K.moved hW.alike hK9, hD9⟩⟩, hS.F ht⟩) hS.2.2 dX11_pan_8

theorem lg_X11_dump_0  : True := by
  trivial
set_option maxHeartbeats 4000000 in
set_option maxRecDepth 100000 in
theorem kX11_dump (l : Launch) (dC : Nat → ClassId) (dI : Nat → Nat → Nat) (sz : Nat) (h0 : Nat) (z_tubes : Nat) (z_grove : Nat) (z_season : Nat) (z_past : Nat) (z_tank : Nat) (z_pan : Nat) (z_cellar : Nat) (z_coop : Nat) (z_tape : Nat) (z_reader : Nat) (z_facts : Nat) (z_book : Nat) (z_spare : Nat) (n_fp : Int32) (n_su : Int64) (n_pa : Int32) (n_he : Int32) (n_mi : Int32) (n_wo : Int32) : Met l yX11_dump (Cond.code yX11_dump cX11_dump 2 (some .int) :: bg) ({ frames := 1, cells := 0, slots := 0, locals := 20 }) (pcW dC dI [.ref h0] sz [(h0, .inr (11, [.ref z_tubes, .ref z_grove, .ref z_season, .ref z_past, .ref z_tank, .ref z_pan, .ref z_cellar, .ref z_coop, .ref z_tape, .ref z_reader, .ref z_facts, .ref z_book, .ref z_spare, .int n_fp])), (z_pan, .inr (3, [.long n_su, .int n_pa, .int n_he, .int n_mi, .int n_wo]))] []) (va_Qi (fun (r : Int32) (u : Unit) => True) (fun (u : Unit) (t : State) => ∃ (w_su : Int64) (w_pa : Int32) (w_he : Int32) (w_mi : Int32) (w_wo : Int32), va_P (dC, dI) vwCl [(h0, .inr (11, [.ref z_tubes, .ref z_grove, .ref z_season, .ref z_past, .ref z_tank, .ref z_pan, .ref z_cellar, .ref z_coop, .ref z_tape, .ref z_reader, .ref z_facts, .ref z_book, .ref z_spare, .int n_fp])), (z_pan, .inr (3, [.long w_su, .int w_pa, .int w_he, .int w_mi, .int w_wo]))] t.heap ∧ va_K (dC, dI) vwCl [] t ∧ va_D (va_A [(h0, .inr (11, [.ref z_tubes, .ref z_grove, .ref z_season, .ref z_past, .ref z_tank, .ref z_pan, .ref z_cellar, .ref z_coop, .ref z_tape, .ref z_reader, .ref z_facts, .ref z_book, .ref z_spare, .int n_fp])), (z_pan, .inr (3, [.long n_su, .int n_pa, .int n_he, .int n_mi, .int n_wo]))] sz) [(h0, .inr (11, [.ref z_tubes, .ref z_grove, .ref z_season, .ref z_past, .ref z_tank, .ref z_pan, .ref z_cellar, .ref z_coop, .ref z_tape, .ref z_reader, .ref z_facts, .ref z_book, .ref z_spare, .int n_fp])), (z_pan, .inr (3, [.long w_su, .int w_pa, .int w_he, .int w_mi, .int w_wo]))]) (va_A [(h0, .inr (11, [.ref z_tubes, .ref z_grove, .ref z_season, .ref z_past, .ref z_tank, .ref z_pan, .ref z_cellar, .ref z_coop, .ref z_tape, .ref z_reader, .ref z_facts, .ref z_book, .ref z_spare, .int n_fp])), (z_pan, .inr (3, [.long n_su, .int n_pa, .int n_he, .int n_mi, .int n_wo]))] sz)) 0 0 (va_A [(h0, .inr (11, [.ref z_tubes, .ref z_grove, .ref z_season, .ref z_past, .ref z_tank, .ref z_pan, .ref z_cellar, .ref z_coop, .ref z_tape, .ref z_reader, .ref z_facts, .ref z_book, .ref z_spare, .int n_fp])), (z_pan, .inr (3, [.long n_su, .int n_pa, .int n_he, .int n_mi, .int n_wo]))] sz) := by
  refine Met.ofW (cc := cX11_dump) (maxL := 2) (ret := (some .int)) pnX11 rfl ?_
  intro p e s m args below meth c s₁ B hml hv
  obtain ⟨rfl, hsz, hP, hK, hD0, hN⟩ := hv
  have hx := B.exec
  have hb := B.bytes
  have hr := B.returns
  have htb : ∀ w ∈ bg, w.before [.ref h0].toArray s = true := fun w h => atoms_spec (ws := Cond.code yX11_dump cX11_dump 2 (some .int) :: bg) B.pre w (List.mem_cons_of_mem _ h)
  have hown : s.vm.findClass RX11 = some m.cls := findClass_of_methodNamed B.named
  have hlocks := B.notSynchronized
  subst hsz
  have hD := hD0.self (sz := s.heap.size)
  generalize hAe : va_A [(h0, .inr (11, [.ref z_tubes, .ref z_grove, .ref z_season, .ref z_past, .ref z_tank, .ref z_pan, .ref z_cellar, .ref z_coop, .ref z_tape, .ref z_reader, .ref z_facts, .ref z_book, .ref z_spare, .int n_fp])), (z_pan, .inr (3, [.long n_su, .int n_pa, .int n_he, .int n_mi, .int n_wo]))] s.heap.size = A at hD ⊢
  have hA : ∀ q : Nat, s.heap.size ≤ q → A q := fun q h => by rw [← hAe]; exact Or.inr h
  have hS : va_S A s.heap s.heap [] := va_S.rf
  have hl := lv_entry ([.ref h0]) (n := 2) (Nat.le_of_ble_eq_true rfl)
  rw [lg_entry_eq]
  generalize (lg_sl ([.ref h0]) ++ List.replicate (2 - (lg_sl ([.ref h0])).length) Slot.unset).toArray = ls at hl ⊢
  change lv_has ls 2 [(0, .ref h0)] at hl
  clear hD0 hAe
  refine go0 (wsP := fun H => va_P (dC, dI) vwCl [(h0, .inr (11, [.ref z_tubes, .ref z_grove, .ref z_season, .ref z_past, .ref z_tank, .ref z_pan, .ref z_cellar, .ref z_coop, .ref z_tape, .ref z_reader, .ref z_facts, .ref z_book, .ref z_spare, .int n_fp])), (z_pan, .inr (3, [.long n_su, .int n_pa, .int n_he, .int n_mi, .int n_wo]))] H) hP hS ?_
  clear hP hS; intro H locs hP hS
  change va_P (dC, dI) vwCl [(h0, .inr (11, [.ref z_tubes, .ref z_grove, .ref z_season, .ref z_past, .ref z_tank, .ref z_pan, .ref z_cellar, .ref z_coop, .ref z_tape, .ref z_reader, .ref z_facts, .ref z_book, .ref z_spare, .int n_fp])), (z_pan, .inr (3, [.long n_su, .int n_pa, .int n_he, .int n_mi, .int n_wo]))] H at hP
  refine lv_aload_n hx hb dX11_dump_0 rfl (lv_at hl 0 rfl) ?_
  refine va_get (D := (dC, dI)) (ci := 11) (v := .ref z_pan) (C := RX11) (T := TX11) (N := 14) hx hb htb iX11 hown hK hP 0 rfl rfl 5 (Nat.le_of_ble_eq_true rfl) (htb _ m_307) (fun _ h9 => h9) rfl dX11_dump_1 ?_
  refine va_getN (host := "MapleLines") (D := (dC, dI)) (ci := 3) (v := .int n_pa) (C := RX3) (T := TX3) (N := 5) hx hb htb iX3 hown hK hP 1 rfl rfl 1 (Nat.le_of_ble_eq_true rfl) (va_Nw.use rfl (hN.1 _ nm_15)) (fun _ h9 => h9) rfl dX11_dump_4 ?_
  refine lv_istore_n (lv' := [(1, .int n_pa), (0, .ref h0)]) hx hb dX11_dump_7 rfl hl (by decide) rfl ?_
  clear hl; intro ls hl
  refine lv_aload_n hx hb dX11_dump_8 rfl (lv_at hl 1 rfl) ?_
  refine va_get (D := (dC, dI)) (ci := 11) (v := .ref z_pan) (C := RX11) (T := TX11) (N := 14) hx hb htb iX11 hown hK hP 0 rfl rfl 5 (Nat.le_of_ble_eq_true rfl) (htb _ m_307) (fun _ h9 => h9) rfl dX11_dump_9 ?_
  have hPc := hP.sub (ws' := [(z_pan, .inr (3, [.long n_su, .int n_pa, .int n_he, .int n_mi, .int n_wo]))]) [1] rfl
  have hDc := hD.sub (ws' := [(z_pan, .inr (3, [.long n_su, .int n_pa, .int n_he, .int n_mi, .int n_wo]))]) [1] (by decide) rfl
  have hKc := hK.sub (tys' := []) [] rfl
  have hFc := va_free (wc := [(z_pan, .inr (3, [.long n_su, .int n_pa, .int n_he, .int n_mi, .int n_wo]))]) hD hS hA [1] rfl
  refine va_callv (va_runV (C := RX3) (As := []) (rest := []) ⟨hx, hb, hml, hown, htb⟩ (kX3_empty l dC dI H.size z_pan n_su n_pa n_he n_mi n_wo ) ⟨callB_of 0 htb (gd_c m_589) rfl rfl rfl (htb _ m_7) (htb _ m_586) hdX3_empty ⟨(Nat.le_of_ble_eq_true rfl), (Nat.le_of_ble_eq_true rfl)⟩, htb _ m_587, htb _ m_588⟩ ⟨pcW_blind, va_recv hKc hPc (ci := 3) (q0 := 0) rfl rfl, pcW_at hPc hKc hDc hN⟩ rfl rfl hl.1 rfl (lv_room (Nat.le_of_ble_eq_true rfl)) dX11_dump_12 ⟨(Nat.le_of_ble_eq_true rfl), (Nat.le_of_ble_eq_true rfl)⟩) hS (fun q _ h => hFc q h) hFc (fun u t H1 locs1 ht hvm h_2 hB hz1 hk1 hS1 => ?_)
  obtain ⟨w_su_3, w_pa_4, w_he_5, w_mi_6, w_wo_7, hP1, hK1, hD1⟩ := hB
  rw [ht] at hP1
  obtain ⟨hPn, hDn⟩ := va_join (wr := [(h0, .inr (11, [.ref z_tubes, .ref z_grove, .ref z_season, .ref z_past, .ref z_tank, .ref z_pan, .ref z_cellar, .ref z_coop, .ref z_tape, .ref z_reader, .ref z_facts, .ref z_book, .ref z_spare, .int n_fp]))]) (w1 := [(z_pan, .inr (3, [.long w_su_3, .int w_pa_4, .int w_he_5, .int w_mi_6, .int w_wo_7]))]) hP hD [1] [0] rfl rfl (by decide) (by decide) hk1 hFc hP1 hD1
  clear hP1 hD1 hK1
  clear hP hD hS hPc hDc hKc hFc hk1 hz1 ht hvm
  clear t
  revert hS1 hPn hDn; generalize H1 = H; generalize locs1 = locs; intro hS hP hD
  change va_P (dC, dI) vwCl [(h0, .inr (11, [.ref z_tubes, .ref z_grove, .ref z_season, .ref z_past, .ref z_tank, .ref z_pan, .ref z_cellar, .ref z_coop, .ref z_tape, .ref z_reader, .ref z_facts, .ref z_book, .ref z_spare, .int n_fp])), (z_pan, .inr (3, [.long w_su_3, .int w_pa_4, .int w_he_5, .int w_mi_6, .int w_wo_7]))] H at hP
  change va_D A [(h0, .inr (11, [.ref z_tubes, .ref z_grove, .ref z_season, .ref z_past, .ref z_tank, .ref z_pan, .ref z_cellar, .ref z_coop, .ref z_tape, .ref z_reader, .ref z_facts, .ref z_book, .ref z_spare, .int n_fp])), (z_pan, .inr (3, [.long w_su_3, .int w_pa_4, .int w_he_5, .int w_mi_6, .int w_wo_7]))] at hD
  refine lv_iload_n hx hb dX11_dump_15 rfl (lv_at hl 0 rfl) ?_
  refine W.widen (k := 0) (n := 0) (Nat.le_of_ble_eq_true rfl) (Nat.le_of_ble_eq_true rfl) ?_
  have hP9 := hP.sub (ws' := [(h0, .inr (11, [.ref z_tubes, .ref z_grove, .ref z_season, .ref z_past, .ref z_tank, .ref z_pan, .ref z_cellar, .ref z_coop, .ref z_tape, .ref z_reader, .ref z_facts, .ref z_book, .ref z_spare, .int n_fp])), (z_pan, .inr (3, [.long w_su_3, .int w_pa_4, .int w_he_5, .int w_mi_6, .int w_wo_7]))]) [0, 1] rfl
  have hD9 := hD.sub (ws' := [(h0, .inr (11, [.ref z_tubes, .ref z_grove, .ref z_season, .ref z_past, .ref z_tank, .ref z_pan, .ref z_cellar, .ref z_coop, .ref z_tape, .ref z_reader, .ref z_facts, .ref z_book, .ref z_spare, .int n_fp])), (z_pan, .inr (3, [.long w_su_3, .int w_pa_4, .int w_he_5, .int w_mi_6, .int w_wo_7]))]) [0, 1] (by decide) rfl
  have hK9 := hK.sub (tys' := []) [] rfl
  exact W.iret (v := n_pa) hx hb hr (fun t ht hW => ⟨⟨n_pa, (), rfl, (lg_X11_dump_0 ), ⟨w_su_3, w_pa_4, w_he_5, w_mi_6, w_wo_7, by rw [ht]; exact hP9, va_K.moved hW.alike hK9, hD9⟩⟩, hS.F ht⟩) hS.2.2 dX11_dump_16

theorem lg_X11_fault_0  : True := by
  trivial
set_option maxHeartbeats 4000000 in
set_option maxRecDepth 100000 in
theorem kX11_fault (l : Launch) (dC : Nat → ClassId) (dI : Nat → Nat → Nat) (sz : Nat) (h0 : Nat) (z_tubes : Nat) (z_grove : Nat) (z_season : Nat) (z_past : Nat) (z_tank : Nat) (z_pan : Nat) (z_cellar : Nat) (z_coop : Nat) (z_tape : Nat) (z_reader : Nat) (z_facts : Nat) (z_book : Nat) (z_spare : Nat) (n_fp : Int32) : Met l yX11_fault (Cond.code yX11_fault cX11_fault 1 (some .int) :: bg) ({ frames := 0, cells := 0, slots := 0, locals := 0 }) (pcW dC dI [.ref h0] sz [(h0, .inr (11, [.ref z_tubes, .ref z_grove, .ref z_season, .ref z_past, .ref z_tank, .ref z_pan, .ref z_cellar, .ref z_coop, .ref z_tape, .ref z_reader, .ref z_facts, .ref z_book, .ref z_spare, .int n_fp]))] []) (va_Qi (fun (r : Int32) (u : Unit) => True) (fun (u : Unit) (t : State) => va_P (dC, dI) vwCl [(h0, .inr (11, [.ref z_tubes, .ref z_grove, .ref z_season, .ref z_past, .ref z_tank, .ref z_pan, .ref z_cellar, .ref z_coop, .ref z_tape, .ref z_reader, .ref z_facts, .ref z_book, .ref z_spare, .int n_fp]))] t.heap ∧ va_K (dC, dI) vwCl [] t ∧ va_D (va_A [(h0, .inr (11, [.ref z_tubes, .ref z_grove, .ref z_season, .ref z_past, .ref z_tank, .ref z_pan, .ref z_cellar, .ref z_coop, .ref z_tape, .ref z_reader, .ref z_facts, .ref z_book, .ref z_spare, .int n_fp]))] sz) [(h0, .inr (11, [.ref z_tubes, .ref z_grove, .ref z_season, .ref z_past, .ref z_tank, .ref z_pan, .ref z_cellar, .ref z_coop, .ref z_tape, .ref z_reader, .ref z_facts, .ref z_book, .ref z_spare, .int n_fp]))]) (va_A [(h0, .inr (11, [.ref z_tubes, .ref z_grove, .ref z_season, .ref z_past, .ref z_tank, .ref z_pan, .ref z_cellar, .ref z_coop, .ref z_tape, .ref z_reader, .ref z_facts, .ref z_book, .ref z_spare, .int n_fp]))] sz)) 0 0 (va_A [(h0, .inr (11, [.ref z_tubes, .ref z_grove, .ref z_season, .ref z_past, .ref z_tank, .ref z_pan, .ref z_cellar, .ref z_coop, .ref z_tape, .ref z_reader, .ref z_facts, .ref z_book, .ref z_spare, .int n_fp]))] sz) := by
  refine Met.ofW (cc := cX11_fault) (maxL := 1) (ret := (some .int)) pnX11 rfl ?_
  intro p e s m args below meth c s₁ B hml hv
  obtain ⟨rfl, hsz, hP, hK, hD0, hN⟩ := hv
  have hx := B.exec
  have hb := B.bytes
  have hr := B.returns
  have htb : ∀ w ∈ bg, w.before [.ref h0].toArray s = true := fun w h => atoms_spec (ws := Cond.code yX11_fault cX11_fault 1 (some .int) :: bg) B.pre w (List.mem_cons_of_mem _ h)
  have hown : s.vm.findClass RX11 = some m.cls := findClass_of_methodNamed B.named
  have hlocks := B.notSynchronized
  subst hsz
  have hD := hD0.self (sz := s.heap.size)
  generalize hAe : va_A [(h0, .inr (11, [.ref z_tubes, .ref z_grove, .ref z_season, .ref z_past, .ref z_tank, .ref z_pan, .ref z_cellar, .ref z_coop, .ref z_tape, .ref z_reader, .ref z_facts, .ref z_book, .ref z_spare, .int n_fp]))] s.heap.size = A at hD ⊢
  have hA : ∀ q : Nat, s.heap.size ≤ q → A q := fun q h => by rw [← hAe]; exact Or.inr h
  have hS : va_S A s.heap s.heap [] := va_S.rf
  have hl := lv_entry ([.ref h0]) (n := 1) (Nat.le_of_ble_eq_true rfl)
  rw [lg_entry_eq]
  generalize (lg_sl ([.ref h0]) ++ List.replicate (1 - (lg_sl ([.ref h0])).length) Slot.unset).toArray = ls at hl ⊢
  change lv_has ls 1 [(0, .ref h0)] at hl
  clear hD0 hAe
  refine go0 (wsP := fun H => va_P (dC, dI) vwCl [(h0, .inr (11, [.ref z_tubes, .ref z_grove, .ref z_season, .ref z_past, .ref z_tank, .ref z_pan, .ref z_cellar, .ref z_coop, .ref z_tape, .ref z_reader, .ref z_facts, .ref z_book, .ref z_spare, .int n_fp]))] H) hP hS ?_
  clear hP hS; intro H locs hP hS
  change va_P (dC, dI) vwCl [(h0, .inr (11, [.ref z_tubes, .ref z_grove, .ref z_season, .ref z_past, .ref z_tank, .ref z_pan, .ref z_cellar, .ref z_coop, .ref z_tape, .ref z_reader, .ref z_facts, .ref z_book, .ref z_spare, .int n_fp]))] H at hP
  refine lv_aload_n hx hb dX11_fault_0 rfl (lv_at hl 0 rfl) ?_
  refine va_get (D := (dC, dI)) (ci := 11) (v := .int n_fp) (C := RX11) (T := TX11) (N := 14) hx hb htb iX11 hown hK hP 0 rfl rfl 13 (Nat.le_of_ble_eq_true rfl) (htb _ m_315) (fun _ h9 => h9) rfl dX11_fault_1 ?_
  refine W.widen (k := 0) (n := 0) (Nat.le_of_ble_eq_true rfl) (Nat.le_of_ble_eq_true rfl) ?_
  have hP9 := hP.sub (ws' := [(h0, .inr (11, [.ref z_tubes, .ref z_grove, .ref z_season, .ref z_past, .ref z_tank, .ref z_pan, .ref z_cellar, .ref z_coop, .ref z_tape, .ref z_reader, .ref z_facts, .ref z_book, .ref z_spare, .int n_fp]))]) [0] rfl
  have hD9 := hD.sub (ws' := [(h0, .inr (11, [.ref z_tubes, .ref z_grove, .ref z_season, .ref z_past, .ref z_tank, .ref z_pan, .ref z_cellar, .ref z_coop, .ref z_tape, .ref z_reader, .ref z_facts, .ref z_book, .ref z_spare, .int n_fp]))]) [0] (by decide) rfl
  have hK9 := hK.sub (tys' := []) [] rfl
  exact W.iret (v := n_fp) hx hb hr (fun t ht hW => ⟨⟨n_fp, (), rfl, (lg_X11_fault_0 ), ⟨by rw [ht]; exact hP9, va_K.moved hW.alike hK9, hD9⟩⟩, hS.F ht⟩) hS.2.2 dX11_fault_4
